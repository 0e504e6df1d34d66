-- 195: LikeYearsModel.isOverBy(III)Z
set_option maxRecDepth 100000 in
set_option maxHeartbeats 4000000 in
theorem B195_0 {Θ : Th} {d : Nat} {σ : Mem} {Q : Po} {x1 : Int32} {x2 : Int32} {x3 : Int32} 
    (h : G Θ d 195 6 [some (.ref 124), some (.int x1), some (.int x2), some (.int x3), some (.int 1), some (.int 0)] [] σ Q) :
    G Θ d 195 0 [some (.ref 124), some (.int x1), some (.int x2), some (.int x3), none, none] [] σ Q := by
  refine r_iconst (v := 1) ok195 0 rfl rfl rfl ?_
  refine r_istore ok195 1 rfl rfl ?_
  refine r_iconst (v := 0) ok195 2 rfl rfl rfl ?_
  refine r_istore ok195 3 rfl rfl ?_
  exact h

set_option maxRecDepth 100000 in
set_option maxHeartbeats 4000000 in
theorem B195_6 {Θ : Th} {d : Nat} {σ : Mem} {Q : Po} {x1 : Int32} {x2 : Int32} {x3 : Int32} {x4 : Int32} {x5 : Int32} 
    (h : (((σ.1 124 37) ≤ x5 → ((x4 = 0 ∨ x4 = 1) ∧ Q (some (.int x4)) σ)) ∧ (¬ (σ.1 124 37) ≤ x5 → ((x4 = 0 → G Θ d 195 6 [some (.ref 124), some (.int x1), some (.int x2), some (.int x3), some (.int 0), some (.int (x5 + 1))] [] σ Q) ∧ (¬ x4 = 0 → ((((x3 >>> (x5 &&& 31)) &&& 1) = 0 → G Θ d 195 6 [some (.ref 124), some (.int x1), some (.int x2), some (.int x3), some (.int 1), some (.int (x5 + 1))] [] σ Q) ∧ (¬ ((x3 >>> (x5 &&& 31)) &&& 1) = 0 → (vp_in ((6 * x1) + x5) 96 ∧ (vp_in ((6 * x2) + x5) 96 ∧ (((σ.1 140 ((6 * x1) + x5).toNatClampNeg) < (σ.1 140 ((6 * x2) + x5).toNatClampNeg) → G Θ d 195 6 [some (.ref 124), some (.int x1), some (.int x2), some (.int x3), some (.int 0), some (.int (x5 + 1))] [] σ Q) ∧ (¬ (σ.1 140 ((6 * x1) + x5).toNatClampNeg) < (σ.1 140 ((6 * x2) + x5).toNatClampNeg) → G Θ d 195 6 [some (.ref 124), some (.int x1), some (.int x2), some (.int x3), some (.int 1), some (.int (x5 + 1))] [] σ Q))))))))))) :
    G Θ d 195 6 [some (.ref 124), some (.int x1), some (.int x2), some (.int x3), some (.int x4), some (.int x5)] [] σ Q := by
  refine r_iload ok195 4 rfl rfl rfl ?_
  refine r_aload_n ok195 5 rfl rfl rfl ?_
  refine r_getI ok195 6 rfl rfl rfl rfl ?_
  refine r_icmp_ge ok195 7 rfl rfl (fun c1 => ?_) (fun c1 => ?_)
  · have h1 := h.1 c1
    refine r_iload ok195 39 rfl rfl rfl ?_
    exact r_zret ok195 40 rfl rfl rfl h1.1 h1.2
  · have h1 := h.2 c1
    refine r_iload ok195 8 rfl rfl rfl ?_
    refine r_if_eq ok195 9 rfl rfl (fun c2 => ?_) (fun c2 => ?_)
    · have h2 := h1.1 c2
      refine r_iconst (v := 0) ok195 35 rfl rfl rfl ?_
      refine r_istore ok195 36 rfl rfl ?_
      refine r_iinc (v := x5 + 1) ok195 37 rfl rfl rfl rfl ?_
      refine r_goto ok195 38 rfl rfl ?_
      exact h2
    · have h2 := h1.2 c2
      refine r_iload_n ok195 10 rfl rfl rfl ?_
      refine r_iload ok195 11 rfl rfl rfl ?_
      refine r_ishr ok195 12 rfl rfl ?_
      refine r_iconst (v := 1) ok195 13 rfl rfl rfl ?_
      refine r_iand ok195 14 rfl rfl ?_
      refine r_if_eq ok195 15 rfl rfl (fun c3 => ?_) (fun c3 => ?_)
      · have h3 := h2.1 c3
        refine r_iconst (v := 1) ok195 33 rfl rfl rfl ?_
        refine r_goto ok195 34 rfl rfl ?_
        refine r_istore ok195 36 rfl rfl ?_
        refine r_iinc (v := x5 + 1) ok195 37 rfl rfl rfl rfl ?_
        refine r_goto ok195 38 rfl rfl ?_
        exact h3
      · have h3 := h2.2 c3
        refine r_aload_n ok195 16 rfl rfl rfl ?_
        refine r_getF ok195 17 rfl rfl rfl rfl ?_
        refine r_bipush (v := 6) ok195 18 rfl rfl rfl ?_
        refine r_iload_n ok195 19 rfl rfl rfl ?_
        refine r_imul ok195 20 rfl rfl ?_
        refine r_iload ok195 21 rfl rfl rfl ?_
        refine r_iadd ok195 22 rfl rfl ?_
        obtain ⟨c4, h4⟩ := h3
        refine r_iald ok195 23 rfl rfl rfl c4 ?_
        refine r_aload_n ok195 24 rfl rfl rfl ?_
        refine r_getF ok195 25 rfl rfl rfl rfl ?_
        refine r_bipush (v := 6) ok195 26 rfl rfl rfl ?_
        refine r_iload_n ok195 27 rfl rfl rfl ?_
        refine r_imul ok195 28 rfl rfl ?_
        refine r_iload ok195 29 rfl rfl rfl ?_
        refine r_iadd ok195 30 rfl rfl ?_
        obtain ⟨c5, h5⟩ := h4
        refine r_iald ok195 31 rfl rfl rfl c5 ?_
        refine r_icmp_lt ok195 32 rfl rfl (fun c6 => ?_) (fun c6 => ?_)
        · have h6 := h5.1 c6
          refine r_iconst (v := 0) ok195 35 rfl rfl rfl ?_
          refine r_istore ok195 36 rfl rfl ?_
          refine r_iinc (v := x5 + 1) ok195 37 rfl rfl rfl rfl ?_
          refine r_goto ok195 38 rfl rfl ?_
          exact h6
        · have h6 := h5.2 c6
          refine r_iconst (v := 1) ok195 33 rfl rfl rfl ?_
          refine r_goto ok195 34 rfl rfl ?_
          refine r_istore ok195 36 rfl rfl ?_
          refine r_iinc (v := x5 + 1) ok195 37 rfl rfl rfl rfl ?_
          refine r_goto ok195 38 rfl rfl ?_
          exact h6

theorem K195 {Θ : Th} {d : Nat} {σ : Mem} {Q : Po} {x1 : Int32} {x2 : Int32} {x3 : Int32} (h : G Θ d 195 0 [some (.ref 124), some (.int x1), some (.int x2), some (.int x3), none, none] [] σ Q) : Cm Θ d 195 [.ref 124, .int x1, .int x2, .int x3] σ Q :=
  C_of_G okM195 (Nat.le_of_ble_eq_true rfl) rfl h

-- 196: LikeYearsModel.counting()I
set_option maxRecDepth 100000 in
set_option maxHeartbeats 4000000 in
theorem B196_0 {Θ : Th} {d : Nat} {σ : Mem} {Q : Po} 
    (h : G Θ d 196 4 [some (.ref 124), some (.int 0), some (.int 0)] [] σ Q) :
    G Θ d 196 0 [some (.ref 124), none, none] [] σ Q := by
  refine r_iconst (v := 0) ok196 0 rfl rfl rfl ?_
  refine r_istore_n ok196 1 rfl rfl ?_
  refine r_iconst (v := 0) ok196 2 rfl rfl rfl ?_
  refine r_istore_n ok196 3 rfl rfl ?_
  exact h

set_option maxRecDepth 100000 in
set_option maxHeartbeats 4000000 in
theorem B196_4 {Θ : Th} {d : Nat} {σ : Mem} {Q : Po} {x1 : Int32} {x2 : Int32} 
    (h : (((σ.1 124 37) ≤ x2 → Q (some (.int x1)) σ) ∧ (¬ (σ.1 124 37) ≤ x2 → (vp_in x2 6 ∧ (((σ.1 147 x2.toNatClampNeg) = 0 → G Θ d 196 4 [some (.ref 124), some (.int (x1 ||| 0)), some (.int (x2 + 1))] [] σ Q) ∧ (¬ (σ.1 147 x2.toNatClampNeg) = 0 → G Θ d 196 4 [some (.ref 124), some (.int (x1 ||| ((1 : Int32) <<< (x2 &&& 31)))), some (.int (x2 + 1))] [] σ Q)))))) :
    G Θ d 196 4 [some (.ref 124), some (.int x1), some (.int x2)] [] σ Q := by
  refine r_iload_n ok196 4 rfl rfl rfl ?_
  refine r_aload_n ok196 5 rfl rfl rfl ?_
  refine r_getI ok196 6 rfl rfl rfl rfl ?_
  refine r_icmp_ge ok196 7 rfl rfl (fun c1 => ?_) (fun c1 => ?_)
  · have h1 := h.1 c1
    refine r_iload_n ok196 23 rfl rfl rfl ?_
    exact r_iret ok196 24 rfl rfl rfl h1
  · have h1 := h.2 c1
    refine r_iload_n ok196 8 rfl rfl rfl ?_
    refine r_aload_n ok196 9 rfl rfl rfl ?_
    refine r_getF ok196 10 rfl rfl rfl rfl ?_
    refine r_iload_n ok196 11 rfl rfl rfl ?_
    obtain ⟨c2, h2⟩ := h1
    refine r_zald ok196 12 rfl rfl rfl c2 ?_
    refine r_if_eq ok196 13 rfl rfl (fun c3 => ?_) (fun c3 => ?_)
    · have h3 := h2.1 c3
      refine r_iconst (v := 0) ok196 18 rfl rfl rfl ?_
      refine r_ior ok196 19 rfl rfl ?_
      refine r_istore_n ok196 20 rfl rfl ?_
      refine r_iinc (v := x2 + 1) ok196 21 rfl rfl rfl rfl ?_
      refine r_goto ok196 22 rfl rfl ?_
      exact h3
    · have h3 := h2.2 c3
      refine r_iconst (v := 1) ok196 14 rfl rfl rfl ?_
      refine r_iload_n ok196 15 rfl rfl rfl ?_
      refine r_ishl ok196 16 rfl rfl ?_
      refine r_goto ok196 17 rfl rfl ?_
      refine r_ior ok196 19 rfl rfl ?_
      refine r_istore_n ok196 20 rfl rfl ?_
      refine r_iinc (v := x2 + 1) ok196 21 rfl rfl rfl rfl ?_
      refine r_goto ok196 22 rfl rfl ?_
      exact h3

theorem K196 {Θ : Th} {d : Nat} {σ : Mem} {Q : Po} (h : G Θ d 196 0 [some (.ref 124), none, none] [] σ Q) : Cm Θ d 196 [.ref 124] σ Q :=
  C_of_G okM196 (Nat.le_of_ble_eq_true rfl) rfl h

-- 197: LikeYearsModel.order(IZ)V
set_option maxRecDepth 100000 in
set_option maxHeartbeats 4000000 in
theorem B197_0 {Θ : Th} {d : Nat} {σ : Mem} {Q : Po} {x1 : Int32} {x2 : Int32} 
    (h : G Θ (d + 1) 197 2 [some (.ref 124), some (.int x1), some (.int x2), some (.int 0), none] [] σ Q) :
    G Θ (d + 1) 197 0 [some (.ref 124), some (.int x1), some (.int x2), none, none] [] σ Q := by
  refine r_iconst (v := 0) ok197 0 rfl rfl rfl ?_
  refine r_istore_n ok197 1 rfl rfl ?_
  exact h

set_option maxRecDepth 100000 in
set_option maxHeartbeats 4000000 in
theorem B197_2 {Θ : Th} {d : Nat} {σ : Mem} {Q : Po} {x1 : Int32} {x2 : Int32} {x3 : Int32} 
    (h : (((σ.1 124 38) ≤ x3 → G Θ (d + 1) 197 71 [some (.ref 124), none, some (.int x2), some (.int 0), none] [] σ Q) ∧ (¬ (σ.1 124 38) ≤ x3 → (vp_in x3 16 ∧ G Θ (d + 1) 197 20 [some (.ref 124), some (.int x1), some (.int x2), some (.int x3), some (.int 0)] [] (sI σ 149 (x3.toNatClampNeg) 0) Q)))) :
    G Θ (d + 1) 197 2 [some (.ref 124), some (.int x1), some (.int x2), some (.int x3), none] [] σ Q := by
  refine r_iload_n ok197 2 rfl rfl rfl ?_
  refine r_aload_n ok197 3 rfl rfl rfl ?_
  refine r_getI ok197 4 rfl rfl rfl rfl ?_
  refine r_icmp_ge ok197 5 rfl rfl (fun c1 => ?_) (fun c1 => ?_)
  · have h1 := h.1 c1
    refine r_iconst (v := 0) ok197 39 rfl rfl rfl ?_
    refine r_istore_n ok197 40 rfl rfl ?_
    exact G.weak (L' := [some (.ref 124), none, some (.int x2), some (.int 0), none]) ⟨rfl, ⟨rfl, ⟨rfl, trivial⟩⟩⟩ h1
  · have h1 := h.2 c1
    refine r_aload_n ok197 6 rfl rfl rfl ?_
    refine r_getF ok197 7 rfl rfl rfl rfl ?_
    refine r_iload_n ok197 8 rfl rfl rfl ?_
    refine r_iconst (v := 0) ok197 9 rfl rfl rfl ?_
    obtain ⟨c2, h2⟩ := h1
    refine r_iast ok197 10 rfl rfl rfl c2 ?_
    refine r_iconst (v := 0) ok197 11 rfl rfl rfl ?_
    refine r_istore ok197 12 rfl rfl ?_
    exact h2

set_option maxRecDepth 100000 in
set_option maxHeartbeats 4000000 in
theorem B197_71 {Θ : Th} {d : Nat} {σ : Mem} {Q : Po} {x2 : Int32} {x3 : Int32} 
    (h : (((σ.1 124 39) ≤ x3 → Cv Θ d 193 [.ref 149, .int (σ.1 124 38)] σ (fun σ2 => G Θ (d + 1) 197 124 [some (.ref 124), none, none, some (.int 0), none] [] σ2 Q)) ∧ (¬ (σ.1 124 39) ≤ x3 → ((x2 = 0 → Cv Θ d 193 [.ref 149, .int (σ.1 124 38)] σ (fun σ4 => G Θ (d + 1) 197 124 [some (.ref 124), none, none, some (.int 0), none] [] σ4 Q)) ∧ (¬ x2 = 0 → (vp_in x3 20 ∧ (vp_in (σ.1 145 x3.toNatClampNeg) 16 ∧ (vp_in x3 20 ∧ (vp_in (σ.1 145 x3.toNatClampNeg) 16 ∧ G Θ (d + 1) 197 71 [some (.ref 124), none, some (.int x2), some (.int (x3 + 1)), none] [] (sI σ 149 ((σ.1 145 x3.toNatClampNeg).toNatClampNeg) ((σ.1 149 (σ.1 145 x3.toNatClampNeg).toNatClampNeg) ||| ((1 : Int32) <<< ((σ.1 146 x3.toNatClampNeg) &&& 31)))) Q))))))))) :
    G Θ (d + 1) 197 71 [some (.ref 124), none, some (.int x2), some (.int x3), none] [] σ Q := by
  refine r_iload_n ok197 41 rfl rfl rfl ?_
  refine r_aload_n ok197 42 rfl rfl rfl ?_
  refine r_getI ok197 43 rfl rfl rfl rfl ?_
  refine r_icmp_ge ok197 44 rfl rfl (fun c1 => ?_) (fun c1 => ?_)
  · have h1 := h.1 c1
    refine r_aload_n ok197 65 rfl rfl rfl ?_
    refine r_getF ok197 66 rfl rfl rfl rfl ?_
    refine r_aload_n ok197 67 rfl rfl rfl ?_
    refine r_getI ok197 68 rfl rfl rfl rfl ?_
    refine r_invSv (as := [.ref 149, .int (σ.1 124 38)]) (S := []) ok197 69 rfl rfl mf193 rfl (Nat.le_of_ble_eq_true rfl) rfl h1 (fun σ2 h2 => ?_)
    refine r_iconst (v := 0) ok197 70 rfl rfl rfl ?_
    refine r_istore_n ok197 71 rfl rfl ?_
    exact G.weak (L' := [some (.ref 124), none, none, some (.int 0), none]) ⟨rfl, ⟨rfl, trivial⟩⟩ h2
  · have h1 := h.2 c1
    refine r_iload_n ok197 45 rfl rfl rfl ?_
    refine r_if_eq ok197 46 rfl rfl (fun c3 => ?_) (fun c3 => ?_)
    · have h3 := h1.1 c3
      refine r_aload_n ok197 65 rfl rfl rfl ?_
      refine r_getF ok197 66 rfl rfl rfl rfl ?_
      refine r_aload_n ok197 67 rfl rfl rfl ?_
      refine r_getI ok197 68 rfl rfl rfl rfl ?_
      refine r_invSv (as := [.ref 149, .int (σ.1 124 38)]) (S := []) ok197 69 rfl rfl mf193 rfl (Nat.le_of_ble_eq_true rfl) rfl h3 (fun σ4 h4 => ?_)
      refine r_iconst (v := 0) ok197 70 rfl rfl rfl ?_
      refine r_istore_n ok197 71 rfl rfl ?_
      exact G.weak (L' := [some (.ref 124), none, none, some (.int 0), none]) ⟨rfl, ⟨rfl, trivial⟩⟩ h4
    · have h3 := h1.2 c3
      refine r_aload_n ok197 47 rfl rfl rfl ?_
      refine r_getF ok197 48 rfl rfl rfl rfl ?_
      refine r_aload_n ok197 49 rfl rfl rfl ?_
      refine r_getF ok197 50 rfl rfl rfl rfl ?_
      refine r_iload_n ok197 51 rfl rfl rfl ?_
      obtain ⟨c5, h5⟩ := h3
      refine r_iald ok197 52 rfl rfl rfl c5 ?_
      refine r_dup2a ok197 53 rfl rfl rfl rfl ?_
      obtain ⟨c6, h6⟩ := h5
      refine r_iald ok197 54 rfl rfl rfl c6 ?_
      refine r_iconst (v := 1) ok197 55 rfl rfl rfl ?_
      refine r_aload_n ok197 56 rfl rfl rfl ?_
      refine r_getF ok197 57 rfl rfl rfl rfl ?_
      refine r_iload_n ok197 58 rfl rfl rfl ?_
      obtain ⟨c7, h7⟩ := h6
      refine r_iald ok197 59 rfl rfl rfl c7 ?_
      refine r_ishl ok197 60 rfl rfl ?_
      refine r_ior ok197 61 rfl rfl ?_
      obtain ⟨c8, h8⟩ := h7
      refine r_iast ok197 62 rfl rfl rfl c8 ?_
      refine r_iinc (v := x3 + 1) ok197 63 rfl rfl rfl rfl ?_
      refine r_goto ok197 64 rfl rfl ?_
      exact h8

set_option maxRecDepth 100000 in
set_option maxHeartbeats 4000000 in
theorem B197_20 {Θ : Th} {d : Nat} {σ : Mem} {Q : Po} {x1 : Int32} {x2 : Int32} {x3 : Int32} {x4 : Int32} 
    (h : (((σ.1 124 38) ≤ x4 → G Θ (d + 1) 197 2 [some (.ref 124), some (.int x1), some (.int x2), some (.int (x3 + 1)), none] [] σ Q) ∧ (¬ (σ.1 124 38) ≤ x4 → (vp_in x3 16 ∧ Ci Θ d 195 [.ref 124, .int x3, .int x4, .int x1] σ (fun v3 σ3 => ((v3 = 0 → (vp_in x3 16 ∧ G Θ (d + 1) 197 20 [some (.ref 124), some (.int x1), some (.int x2), some (.int x3), some (.int (x4 + 1))] [] (sI σ3 149 (x3.toNatClampNeg) ((σ.1 149 x3.toNatClampNeg) ||| 0)) Q)) ∧ (¬ v3 = 0 → (vp_in x3 16 ∧ G Θ (d + 1) 197 20 [some (.ref 124), some (.int x1), some (.int x2), some (.int x3), some (.int (x4 + 1))] [] (sI σ3 149 (x3.toNatClampNeg) ((σ.1 149 x3.toNatClampNeg) ||| ((1 : Int32) <<< (x4 &&& 31)))) Q)))))))) :
    G Θ (d + 1) 197 20 [some (.ref 124), some (.int x1), some (.int x2), some (.int x3), some (.int x4)] [] σ Q := by
  refine r_iload ok197 13 rfl rfl rfl ?_
  refine r_aload_n ok197 14 rfl rfl rfl ?_
  refine r_getI ok197 15 rfl rfl rfl rfl ?_
  refine r_icmp_ge ok197 16 rfl rfl (fun c1 => ?_) (fun c1 => ?_)
  · have h1 := h.1 c1
    refine r_iinc (v := x3 + 1) ok197 37 rfl rfl rfl rfl ?_
    refine r_goto ok197 38 rfl rfl ?_
    exact G.weak (L' := [some (.ref 124), some (.int x1), some (.int x2), some (.int (x3 + 1)), none]) ⟨rfl, ⟨rfl, ⟨rfl, ⟨rfl, trivial⟩⟩⟩⟩ h1
  · have h1 := h.2 c1
    refine r_aload_n ok197 17 rfl rfl rfl ?_
    refine r_getF ok197 18 rfl rfl rfl rfl ?_
    refine r_iload_n ok197 19 rfl rfl rfl ?_
    refine r_dup2a ok197 20 rfl rfl rfl rfl ?_
    obtain ⟨c2, h2⟩ := h1
    refine r_iald ok197 21 rfl rfl rfl c2 ?_
    refine r_aload_n ok197 22 rfl rfl rfl ?_
    refine r_iload_n ok197 23 rfl rfl rfl ?_
    refine r_iload ok197 24 rfl rfl rfl ?_
    refine r_iload_n ok197 25 rfl rfl rfl ?_
    refine r_invVi (as := [.int x3, .int x4, .int x1]) (S := [.int (σ.1 149 x3.toNatClampNeg), .int x3, .ref 149]) ok197 26 rfl rfl mf195 rfl rfl (Nat.le_of_ble_eq_true rfl) rfl h2 (fun v3 σ3 h3 => ?_)
    refine r_if_eq ok197 27 rfl rfl (fun c4 => ?_) (fun c4 => ?_)
    · have h4 := h3.1 c4
      refine r_iconst (v := 0) ok197 32 rfl rfl rfl ?_
      refine r_ior ok197 33 rfl rfl ?_
      obtain ⟨c5, h5⟩ := h4
      refine r_iast ok197 34 rfl rfl rfl c5 ?_
      refine r_iinc (v := x4 + 1) ok197 35 rfl rfl rfl rfl ?_
      refine r_goto ok197 36 rfl rfl ?_
      exact h5
    · have h4 := h3.2 c4
      refine r_iconst (v := 1) ok197 28 rfl rfl rfl ?_
      refine r_iload ok197 29 rfl rfl rfl ?_
      refine r_ishl ok197 30 rfl rfl ?_
      refine r_goto ok197 31 rfl rfl ?_
      refine r_ior ok197 33 rfl rfl ?_
      obtain ⟨c6, h6⟩ := h4
      refine r_iast ok197 34 rfl rfl rfl c6 ?_
      refine r_iinc (v := x4 + 1) ok197 35 rfl rfl rfl rfl ?_
      refine r_goto ok197 36 rfl rfl ?_
      exact h6

set_option maxRecDepth 100000 in
set_option maxHeartbeats 4000000 in
theorem B197_124 {Θ : Th} {d : Nat} {σ : Mem} {Q : Po} {x3 : Int32} 
    (h : (((σ.1 124 38) ≤ x3 → Q none σ) ∧ (¬ (σ.1 124 38) ≤ x3 → (vp_in x3 16 ∧ G Θ (d + 1) 197 142 [some (.ref 124), none, none, some (.int x3), some (.int 0)] [] (sI σ 150 (x3.toNatClampNeg) 0) Q)))) :
    G Θ (d + 1) 197 124 [some (.ref 124), none, none, some (.int x3), none] [] σ Q := by
  refine r_iload_n ok197 72 rfl rfl rfl ?_
  refine r_aload_n ok197 73 rfl rfl rfl ?_
  refine r_getI ok197 74 rfl rfl rfl rfl ?_
  refine r_icmp_ge ok197 75 rfl rfl (fun c1 => ?_) (fun c1 => ?_)
  · have h1 := h.1 c1
    exact r_ret ok197 113 rfl rfl rfl h1
  · have h1 := h.2 c1
    refine r_aload_n ok197 76 rfl rfl rfl ?_
    refine r_getF ok197 77 rfl rfl rfl rfl ?_
    refine r_iload_n ok197 78 rfl rfl rfl ?_
    refine r_iconst (v := 0) ok197 79 rfl rfl rfl ?_
    obtain ⟨c2, h2⟩ := h1
    refine r_iast ok197 80 rfl rfl rfl c2 ?_
    refine r_iconst (v := 0) ok197 81 rfl rfl rfl ?_
    refine r_istore ok197 82 rfl rfl ?_
    exact h2

set_option maxRecDepth 100000 in
set_option maxHeartbeats 4000000 in
theorem B197_142 {Θ : Th} {d : Nat} {σ : Mem} {Q : Po} {x3 : Int32} {x4 : Int32} 
    (h : (((σ.1 124 38) ≤ x4 → G Θ (d + 1) 197 124 [some (.ref 124), none, none, some (.int (x3 + 1)), none] [] σ Q) ∧ (¬ (σ.1 124 38) ≤ x4 → (vp_in x3 16 ∧ (vp_in x4 16 ∧ ((¬ (((σ.1 149 x4.toNatClampNeg) >>> (x3 &&& 31)) &&& 1) = 1 → (vp_in x3 16 ∧ G Θ (d + 1) 197 142 [some (.ref 124), none, none, some (.int x3), some (.int (x4 + 1))] [] (sI σ 150 (x3.toNatClampNeg) ((σ.1 150 x3.toNatClampNeg) ||| 0)) Q)) ∧ ((((σ.1 149 x4.toNatClampNeg) >>> (x3 &&& 31)) &&& 1) = 1 → (vp_in x3 16 ∧ G Θ (d + 1) 197 142 [some (.ref 124), none, none, some (.int x3), some (.int (x4 + 1))] [] (sI σ 150 (x3.toNatClampNeg) ((σ.1 150 x3.toNatClampNeg) ||| ((1 : Int32) <<< (x4 &&& 31)))) Q)))))))) :
    G Θ (d + 1) 197 142 [some (.ref 124), none, none, some (.int x3), some (.int x4)] [] σ Q := by
  refine r_iload ok197 83 rfl rfl rfl ?_
  refine r_aload_n ok197 84 rfl rfl rfl ?_
  refine r_getI ok197 85 rfl rfl rfl rfl ?_
  refine r_icmp_ge ok197 86 rfl rfl (fun c1 => ?_) (fun c1 => ?_)
  · have h1 := h.1 c1
    refine r_iinc (v := x3 + 1) ok197 111 rfl rfl rfl rfl ?_
    refine r_goto ok197 112 rfl rfl ?_
    exact G.weak (L' := [some (.ref 124), none, none, some (.int (x3 + 1)), none]) ⟨rfl, ⟨rfl, trivial⟩⟩ h1
  · have h1 := h.2 c1
    refine r_aload_n ok197 87 rfl rfl rfl ?_
    refine r_getF ok197 88 rfl rfl rfl rfl ?_
    refine r_iload_n ok197 89 rfl rfl rfl ?_
    refine r_dup2a ok197 90 rfl rfl rfl rfl ?_
    obtain ⟨c2, h2⟩ := h1
    refine r_iald ok197 91 rfl rfl rfl c2 ?_
    refine r_aload_n ok197 92 rfl rfl rfl ?_
    refine r_getF ok197 93 rfl rfl rfl rfl ?_
    refine r_iload ok197 94 rfl rfl rfl ?_
    obtain ⟨c3, h3⟩ := h2
    refine r_iald ok197 95 rfl rfl rfl c3 ?_
    refine r_iload_n ok197 96 rfl rfl rfl ?_
    refine r_ishr ok197 97 rfl rfl ?_
    refine r_iconst (v := 1) ok197 98 rfl rfl rfl ?_
    refine r_iand ok197 99 rfl rfl ?_
    refine r_iconst (v := 1) ok197 100 rfl rfl rfl ?_
    refine r_icmp_ne ok197 101 rfl rfl (fun c4 => ?_) (fun c4 => ?_)
    · have h4 := h3.1 c4
      refine r_iconst (v := 0) ok197 106 rfl rfl rfl ?_
      refine r_ior ok197 107 rfl rfl ?_
      obtain ⟨c5, h5⟩ := h4
      refine r_iast ok197 108 rfl rfl rfl c5 ?_
      refine r_iinc (v := x4 + 1) ok197 109 rfl rfl rfl rfl ?_
      refine r_goto ok197 110 rfl rfl ?_
      exact h5
    · have h4 := h3.2 c4
      refine r_iconst (v := 1) ok197 102 rfl rfl rfl ?_
      refine r_iload ok197 103 rfl rfl rfl ?_
      refine r_ishl ok197 104 rfl rfl ?_
      refine r_goto ok197 105 rfl rfl ?_
      refine r_ior ok197 107 rfl rfl ?_
      obtain ⟨c6, h6⟩ := h4
      refine r_iast ok197 108 rfl rfl rfl c6 ?_
      refine r_iinc (v := x4 + 1) ok197 109 rfl rfl rfl rfl ?_
      refine r_goto ok197 110 rfl rfl ?_
      exact h6

theorem K197 {Θ : Th} {d : Nat} {σ : Mem} {Q : Po} {x1 : Int32} {x2 : Int32} (h : G Θ (d + 1) 197 0 [some (.ref 124), some (.int x1), some (.int x2), none, none] [] σ Q) : Cm Θ (d + 1) 197 [.ref 124, .int x1, .int x2] σ Q :=
  C_of_G okM197 (Nat.le_of_ble_eq_true rfl) rfl h

-- 198: LikeYearsModel.orderNow()V
set_option maxRecDepth 100000 in
set_option maxHeartbeats 4000000 in
theorem B198_0 {Θ : Th} {d : Nat} {σ : Mem} {Q : Po} 
    (h : Ci Θ d 196 [.ref 124] σ (fun v1 σ1 => Cv Θ d 197 [.ref 124, .int v1, .int 1] σ1 (fun σ2 => Q none σ2))) :
    G Θ (d + 1) 198 0 [some (.ref 124)] [] σ Q := by
  refine r_aload_n ok198 0 rfl rfl rfl ?_
  refine r_aload_n ok198 1 rfl rfl rfl ?_
  refine r_invVi (as := []) (S := [.ref 124]) ok198 2 rfl rfl mf196 rfl rfl (Nat.le_of_ble_eq_true rfl) rfl h (fun v1 σ1 h1 => ?_)
  refine r_iconst (v := 1) ok198 3 rfl rfl rfl ?_
  refine r_invVv (as := [.int v1, .int 1]) (S := []) ok198 4 rfl rfl mf197 rfl rfl (Nat.le_of_ble_eq_true rfl) rfl h1 (fun σ2 h2 => ?_)
  exact r_ret ok198 5 rfl rfl rfl h2

theorem K198 {Θ : Th} {d : Nat} {σ : Mem} {Q : Po} (h : G Θ (d + 1) 198 0 [some (.ref 124)] [] σ Q) : Cm Θ (d + 1) 198 [.ref 124] σ Q :=
  C_of_G okM198 (Nat.le_of_ble_eq_true rfl) rfl h

-- 199: LikeYearsModel.goesRound(I)Z
set_option maxRecDepth 100000 in
set_option maxHeartbeats 4000000 in
theorem B199_0 {Θ : Th} {d : Nat} {σ : Mem} {Q : Po} {x1 : Int32} 
    (h : G Θ (d + 1) 199 2 [some (.ref 124), some (.int x1), some (.int 0), none] [] σ Q) :
    G Θ (d + 1) 199 0 [some (.ref 124), some (.int x1), none, none] [] σ Q := by
  refine r_iconst (v := 0) ok199 0 rfl rfl rfl ?_
  refine r_istore_n ok199 1 rfl rfl ?_
  exact h

set_option maxRecDepth 100000 in
set_option maxHeartbeats 4000000 in
theorem B199_2 {Θ : Th} {d : Nat} {σ : Mem} {Q : Po} {x1 : Int32} {x2 : Int32} 
    (h : (((σ.1 124 38) ≤ x2 → G Θ (d + 1) 199 67 [some (.ref 124), none, some (.int 0), none] [] σ Q) ∧ (¬ (σ.1 124 38) ≤ x2 → (vp_in x2 16 ∧ G Θ (d + 1) 199 19 [some (.ref 124), some (.int x1), some (.int x2), some (.int 0)] [] (sI σ 149 (x2.toNatClampNeg) 0) Q)))) :
    G Θ (d + 1) 199 2 [some (.ref 124), some (.int x1), some (.int x2), none] [] σ Q := by
  refine r_iload_n ok199 2 rfl rfl rfl ?_
  refine r_aload_n ok199 3 rfl rfl rfl ?_
  refine r_getI ok199 4 rfl rfl rfl rfl ?_
  refine r_icmp_ge ok199 5 rfl rfl (fun c1 => ?_) (fun c1 => ?_)
  · have h1 := h.1 c1
    refine r_iconst (v := 0) ok199 39 rfl rfl rfl ?_
    refine r_istore_n ok199 40 rfl rfl ?_
    exact G.weak (L' := [some (.ref 124), none, some (.int 0), none]) ⟨rfl, ⟨rfl, trivial⟩⟩ h1
  · have h1 := h.2 c1
    refine r_aload_n ok199 6 rfl rfl rfl ?_
    refine r_getF ok199 7 rfl rfl rfl rfl ?_
    refine r_iload_n ok199 8 rfl rfl rfl ?_
    refine r_iconst (v := 0) ok199 9 rfl rfl rfl ?_
    obtain ⟨c2, h2⟩ := h1
    refine r_iast ok199 10 rfl rfl rfl c2 ?_
    refine r_iconst (v := 0) ok199 11 rfl rfl rfl ?_
    refine r_istore_n ok199 12 rfl rfl ?_
    exact h2

set_option maxRecDepth 100000 in
set_option maxHeartbeats 4000000 in
theorem B199_67 {Θ : Th} {d : Nat} {σ : Mem} {Q : Po} {x2 : Int32} 
    (h : (((σ.1 124 39) ≤ x2 → Q (some (.int 0)) σ) ∧ (¬ (σ.1 124 39) ≤ x2 → (vp_in x2 20 ∧ (vp_in (σ.1 146 x2.toNatClampNeg) 16 ∧ (vp_in x2 20 ∧ ((¬ (((σ.1 149 (σ.1 146 x2.toNatClampNeg).toNatClampNeg) >>> ((σ.1 145 x2.toNatClampNeg) &&& 31)) &&& 1) = 1 → (vp_in x2 20 ∧ (vp_in (σ.1 145 x2.toNatClampNeg) 16 ∧ (vp_in x2 20 ∧ (vp_in (σ.1 145 x2.toNatClampNeg) 16 ∧ Cv Θ d 193 [.ref 149, .int ((sI σ 149 ((σ.1 145 x2.toNatClampNeg).toNatClampNeg) ((σ.1 149 (σ.1 145 x2.toNatClampNeg).toNatClampNeg) ||| ((1 : Int32) <<< ((σ.1 146 x2.toNatClampNeg) &&& 31)))).1 124 38)] (sI σ 149 ((σ.1 145 x2.toNatClampNeg).toNatClampNeg) ((σ.1 149 (σ.1 145 x2.toNatClampNeg).toNatClampNeg) ||| ((1 : Int32) <<< ((σ.1 146 x2.toNatClampNeg) &&& 31)))) (fun σ10 => G Θ (d + 1) 199 67 [some (.ref 124), none, some (.int (x2 + 1)), none] [] σ10 Q)))))) ∧ ((((σ.1 149 (σ.1 146 x2.toNatClampNeg).toNatClampNeg) >>> ((σ.1 145 x2.toNatClampNeg) &&& 31)) &&& 1) = 1 → Q (some (.int 1)) σ)))))))) :
    G Θ (d + 1) 199 67 [some (.ref 124), none, some (.int x2), none] [] σ Q := by
  refine r_iload_n ok199 41 rfl rfl rfl ?_
  refine r_aload_n ok199 42 rfl rfl rfl ?_
  refine r_getI ok199 43 rfl rfl rfl rfl ?_
  refine r_icmp_ge ok199 44 rfl rfl (fun c1 => ?_) (fun c1 => ?_)
  · have h1 := h.1 c1
    refine r_iconst (v := 0) ok199 86 rfl rfl rfl ?_
    exact r_zret ok199 87 rfl rfl rfl (Or.inl rfl) h1
  · have h1 := h.2 c1
    refine r_aload_n ok199 45 rfl rfl rfl ?_
    refine r_getF ok199 46 rfl rfl rfl rfl ?_
    refine r_aload_n ok199 47 rfl rfl rfl ?_
    refine r_getF ok199 48 rfl rfl rfl rfl ?_
    refine r_iload_n ok199 49 rfl rfl rfl ?_
    obtain ⟨c2, h2⟩ := h1
    refine r_iald ok199 50 rfl rfl rfl c2 ?_
    obtain ⟨c3, h3⟩ := h2
    refine r_iald ok199 51 rfl rfl rfl c3 ?_
    refine r_aload_n ok199 52 rfl rfl rfl ?_
    refine r_getF ok199 53 rfl rfl rfl rfl ?_
    refine r_iload_n ok199 54 rfl rfl rfl ?_
    obtain ⟨c4, h4⟩ := h3
    refine r_iald ok199 55 rfl rfl rfl c4 ?_
    refine r_ishr ok199 56 rfl rfl ?_
    refine r_iconst (v := 1) ok199 57 rfl rfl rfl ?_
    refine r_iand ok199 58 rfl rfl ?_
    refine r_iconst (v := 1) ok199 59 rfl rfl rfl ?_
    refine r_icmp_ne ok199 60 rfl rfl (fun c5 => ?_) (fun c5 => ?_)
    · have h5 := h4.1 c5
      refine r_aload_n ok199 63 rfl rfl rfl ?_
      refine r_getF ok199 64 rfl rfl rfl rfl ?_
      refine r_aload_n ok199 65 rfl rfl rfl ?_
      refine r_getF ok199 66 rfl rfl rfl rfl ?_
      refine r_iload_n ok199 67 rfl rfl rfl ?_
      obtain ⟨c6, h6⟩ := h5
      refine r_iald ok199 68 rfl rfl rfl c6 ?_
      refine r_dup2a ok199 69 rfl rfl rfl rfl ?_
      obtain ⟨c7, h7⟩ := h6
      refine r_iald ok199 70 rfl rfl rfl c7 ?_
      refine r_iconst (v := 1) ok199 71 rfl rfl rfl ?_
      refine r_aload_n ok199 72 rfl rfl rfl ?_
      refine r_getF ok199 73 rfl rfl rfl rfl ?_
      refine r_iload_n ok199 74 rfl rfl rfl ?_
      obtain ⟨c8, h8⟩ := h7
      refine r_iald ok199 75 rfl rfl rfl c8 ?_
      refine r_ishl ok199 76 rfl rfl ?_
      refine r_ior ok199 77 rfl rfl ?_
      obtain ⟨c9, h9⟩ := h8
      refine r_iast ok199 78 rfl rfl rfl c9 ?_
      refine r_aload_n ok199 79 rfl rfl rfl ?_
      refine r_getF ok199 80 rfl rfl rfl rfl ?_
      refine r_aload_n ok199 81 rfl rfl rfl ?_
      refine r_getI ok199 82 rfl rfl rfl rfl ?_
      refine r_invSv (as := [.ref 149, .int ((sI σ 149 ((σ.1 145 x2.toNatClampNeg).toNatClampNeg) ((σ.1 149 (σ.1 145 x2.toNatClampNeg).toNatClampNeg) ||| ((1 : Int32) <<< ((σ.1 146 x2.toNatClampNeg) &&& 31)))).1 124 38)]) (S := []) ok199 83 rfl rfl mf193 rfl (Nat.le_of_ble_eq_true rfl) rfl h9 (fun σ10 h10 => ?_)
      refine r_iinc (v := x2 + 1) ok199 84 rfl rfl rfl rfl ?_
      refine r_goto ok199 85 rfl rfl ?_
      exact h10
    · have h5 := h4.2 c5
      refine r_iconst (v := 1) ok199 61 rfl rfl rfl ?_
      exact r_zret ok199 62 rfl rfl rfl (Or.inr rfl) h5

set_option maxRecDepth 100000 in
set_option maxHeartbeats 4000000 in
theorem B199_19 {Θ : Th} {d : Nat} {σ : Mem} {Q : Po} {x1 : Int32} {x2 : Int32} {x3 : Int32} 
    (h : (((σ.1 124 38) ≤ x3 → G Θ (d + 1) 199 2 [some (.ref 124), some (.int x1), some (.int (x2 + 1)), none] [] σ Q) ∧ (¬ (σ.1 124 38) ≤ x3 → (vp_in x2 16 ∧ Ci Θ d 195 [.ref 124, .int x2, .int x3, .int x1] σ (fun v3 σ3 => ((v3 = 0 → (vp_in x2 16 ∧ G Θ (d + 1) 199 19 [some (.ref 124), some (.int x1), some (.int x2), some (.int (x3 + 1))] [] (sI σ3 149 (x2.toNatClampNeg) ((σ.1 149 x2.toNatClampNeg) ||| 0)) Q)) ∧ (¬ v3 = 0 → (vp_in x2 16 ∧ G Θ (d + 1) 199 19 [some (.ref 124), some (.int x1), some (.int x2), some (.int (x3 + 1))] [] (sI σ3 149 (x2.toNatClampNeg) ((σ.1 149 x2.toNatClampNeg) ||| ((1 : Int32) <<< (x3 &&& 31)))) Q)))))))) :
    G Θ (d + 1) 199 19 [some (.ref 124), some (.int x1), some (.int x2), some (.int x3)] [] σ Q := by
  refine r_iload_n ok199 13 rfl rfl rfl ?_
  refine r_aload_n ok199 14 rfl rfl rfl ?_
  refine r_getI ok199 15 rfl rfl rfl rfl ?_
  refine r_icmp_ge ok199 16 rfl rfl (fun c1 => ?_) (fun c1 => ?_)
  · have h1 := h.1 c1
    refine r_iinc (v := x2 + 1) ok199 37 rfl rfl rfl rfl ?_
    refine r_goto ok199 38 rfl rfl ?_
    exact G.weak (L' := [some (.ref 124), some (.int x1), some (.int (x2 + 1)), none]) ⟨rfl, ⟨rfl, ⟨rfl, trivial⟩⟩⟩ h1
  · have h1 := h.2 c1
    refine r_aload_n ok199 17 rfl rfl rfl ?_
    refine r_getF ok199 18 rfl rfl rfl rfl ?_
    refine r_iload_n ok199 19 rfl rfl rfl ?_
    refine r_dup2a ok199 20 rfl rfl rfl rfl ?_
    obtain ⟨c2, h2⟩ := h1
    refine r_iald ok199 21 rfl rfl rfl c2 ?_
    refine r_aload_n ok199 22 rfl rfl rfl ?_
    refine r_iload_n ok199 23 rfl rfl rfl ?_
    refine r_iload_n ok199 24 rfl rfl rfl ?_
    refine r_iload_n ok199 25 rfl rfl rfl ?_
    refine r_invVi (as := [.int x2, .int x3, .int x1]) (S := [.int (σ.1 149 x2.toNatClampNeg), .int x2, .ref 149]) ok199 26 rfl rfl mf195 rfl rfl (Nat.le_of_ble_eq_true rfl) rfl h2 (fun v3 σ3 h3 => ?_)
    refine r_if_eq ok199 27 rfl rfl (fun c4 => ?_) (fun c4 => ?_)
    · have h4 := h3.1 c4
      refine r_iconst (v := 0) ok199 32 rfl rfl rfl ?_
      refine r_ior ok199 33 rfl rfl ?_
      obtain ⟨c5, h5⟩ := h4
      refine r_iast ok199 34 rfl rfl rfl c5 ?_
      refine r_iinc (v := x3 + 1) ok199 35 rfl rfl rfl rfl ?_
      refine r_goto ok199 36 rfl rfl ?_
      exact h5
    · have h4 := h3.2 c4
      refine r_iconst (v := 1) ok199 28 rfl rfl rfl ?_
      refine r_iload_n ok199 29 rfl rfl rfl ?_
      refine r_ishl ok199 30 rfl rfl ?_
      refine r_goto ok199 31 rfl rfl ?_
      refine r_ior ok199 33 rfl rfl ?_
      obtain ⟨c6, h6⟩ := h4
      refine r_iast ok199 34 rfl rfl rfl c6 ?_
      refine r_iinc (v := x3 + 1) ok199 35 rfl rfl rfl rfl ?_
      refine r_goto ok199 36 rfl rfl ?_
      exact h6

theorem K199 {Θ : Th} {d : Nat} {σ : Mem} {Q : Po} {x1 : Int32} (h : G Θ (d + 1) 199 0 [some (.ref 124), some (.int x1), none, none] [] σ Q) : Cm Θ (d + 1) 199 [.ref 124, .int x1] σ Q :=
  C_of_G okM199 (Nat.le_of_ble_eq_true rfl) rfl h

-- 200: LikeYearsModel.isCase(I)Z
set_option maxRecDepth 100000 in
set_option maxHeartbeats 4000000 in
theorem B200_0 {Θ : Th} {d : Nat} {σ : Mem} {Q : Po} {x1 : Int32} 
    (h : ((x1 < 0 → Q (some (.int 0)) σ) ∧ (¬ x1 < 0 → (((σ.1 124 38) ≤ x1 → Q (some (.int 0)) σ) ∧ (¬ (σ.1 124 38) ≤ x1 → Q (some (.int 1)) σ))))) :
    G Θ d 200 0 [some (.ref 124), some (.int x1)] [] σ Q := by
  refine r_iload_n ok200 0 rfl rfl rfl ?_
  refine r_if_lt ok200 1 rfl rfl (fun c1 => ?_) (fun c1 => ?_)
  · have h1 := h.1 c1
    refine r_iconst (v := 0) ok200 8 rfl rfl rfl ?_
    exact r_zret ok200 9 rfl rfl rfl (Or.inl rfl) h1
  · have h1 := h.2 c1
    refine r_iload_n ok200 2 rfl rfl rfl ?_
    refine r_aload_n ok200 3 rfl rfl rfl ?_
    refine r_getI ok200 4 rfl rfl rfl rfl ?_
    refine r_icmp_ge ok200 5 rfl rfl (fun c2 => ?_) (fun c2 => ?_)
    · have h2 := h1.1 c2
      refine r_iconst (v := 0) ok200 8 rfl rfl rfl ?_
      exact r_zret ok200 9 rfl rfl rfl (Or.inl rfl) h2
    · have h2 := h1.2 c2
      refine r_iconst (v := 1) ok200 6 rfl rfl rfl ?_
      refine r_goto ok200 7 rfl rfl ?_
      exact r_zret ok200 9 rfl rfl rfl (Or.inr rfl) h2

theorem K200 {Θ : Th} {d : Nat} {σ : Mem} {Q : Po} {x1 : Int32} (h : G Θ d 200 0 [some (.ref 124), some (.int x1)] [] σ Q) : Cm Θ d 200 [.ref 124, .int x1] σ Q :=
  C_of_G okM200 (Nat.le_of_ble_eq_true rfl) rfl h

-- 201: LikeYearsModel.isMark(I)Z
set_option maxRecDepth 100000 in
set_option maxHeartbeats 4000000 in
theorem B201_0 {Θ : Th} {d : Nat} {σ : Mem} {Q : Po} {x1 : Int32} 
    (h : ((x1 < 0 → Q (some (.int 0)) σ) ∧ (¬ x1 < 0 → (((σ.1 124 37) ≤ x1 → Q (some (.int 0)) σ) ∧ (¬ (σ.1 124 37) ≤ x1 → Q (some (.int 1)) σ))))) :
    G Θ d 201 0 [some (.ref 124), some (.int x1)] [] σ Q := by
  refine r_iload_n ok201 0 rfl rfl rfl ?_
  refine r_if_lt ok201 1 rfl rfl (fun c1 => ?_) (fun c1 => ?_)
  · have h1 := h.1 c1
    refine r_iconst (v := 0) ok201 8 rfl rfl rfl ?_
    exact r_zret ok201 9 rfl rfl rfl (Or.inl rfl) h1
  · have h1 := h.2 c1
    refine r_iload_n ok201 2 rfl rfl rfl ?_
    refine r_aload_n ok201 3 rfl rfl rfl ?_
    refine r_getI ok201 4 rfl rfl rfl rfl ?_
    refine r_icmp_ge ok201 5 rfl rfl (fun c2 => ?_) (fun c2 => ?_)
    · have h2 := h1.1 c2
      refine r_iconst (v := 0) ok201 8 rfl rfl rfl ?_
      exact r_zret ok201 9 rfl rfl rfl (Or.inl rfl) h2
    · have h2 := h1.2 c2
      refine r_iconst (v := 1) ok201 6 rfl rfl rfl ?_
      refine r_goto ok201 7 rfl rfl ?_
      exact r_zret ok201 9 rfl rfl rfl (Or.inr rfl) h2

theorem K201 {Θ : Th} {d : Nat} {σ : Mem} {Q : Po} {x1 : Int32} (h : G Θ d 201 0 [some (.ref 124), some (.int x1)] [] σ Q) : Cm Θ d 201 [.ref 124, .int x1] σ Q :=
  C_of_G okM201 (Nat.le_of_ble_eq_true rfl) rfl h

-- 202: LikeYearsModel.isOver(II)Z
set_option maxRecDepth 100000 in
set_option maxHeartbeats 4000000 in
theorem B202_0 {Θ : Th} {d : Nat} {σ : Mem} {Q : Po} {x1 : Int32} {x2 : Int32} 
    (h : (vp_in x1 16 ∧ ((¬ (((σ.1 149 x1.toNatClampNeg) >>> (x2 &&& 31)) &&& 1) = 1 → Q (some (.int 0)) σ) ∧ ((((σ.1 149 x1.toNatClampNeg) >>> (x2 &&& 31)) &&& 1) = 1 → Q (some (.int 1)) σ)))) :
    G Θ d 202 0 [some (.ref 124), some (.int x1), some (.int x2)] [] σ Q := by
  refine r_aload_n ok202 0 rfl rfl rfl ?_
  refine r_getF ok202 1 rfl rfl rfl rfl ?_
  refine r_iload_n ok202 2 rfl rfl rfl ?_
  obtain ⟨c1, h1⟩ := h
  refine r_iald ok202 3 rfl rfl rfl c1 ?_
  refine r_iload_n ok202 4 rfl rfl rfl ?_
  refine r_ishr ok202 5 rfl rfl ?_
  refine r_iconst (v := 1) ok202 6 rfl rfl rfl ?_
  refine r_iand ok202 7 rfl rfl ?_
  refine r_iconst (v := 1) ok202 8 rfl rfl rfl ?_
  refine r_icmp_ne ok202 9 rfl rfl (fun c2 => ?_) (fun c2 => ?_)
  · have h2 := h1.1 c2
    refine r_iconst (v := 0) ok202 12 rfl rfl rfl ?_
    exact r_zret ok202 13 rfl rfl rfl (Or.inl rfl) h2
  · have h2 := h1.2 c2
    refine r_iconst (v := 1) ok202 10 rfl rfl rfl ?_
    refine r_goto ok202 11 rfl rfl ?_
    exact r_zret ok202 13 rfl rfl rfl (Or.inr rfl) h2

theorem K202 {Θ : Th} {d : Nat} {σ : Mem} {Q : Po} {x1 : Int32} {x2 : Int32} (h : G Θ d 202 0 [some (.ref 124), some (.int x1), some (.int x2)] [] σ Q) : Cm Θ d 202 [.ref 124, .int x1, .int x2] σ Q :=
  C_of_G okM202 (Nat.le_of_ble_eq_true rfl) rfl h

-- 203: LikeYearsModel.worse(II)I
set_option maxRecDepth 100000 in
set_option maxHeartbeats 4000000 in
theorem B203_0 {Θ : Th} {d : Nat} {σ : Mem} {Q : Po} {x1 : Int32} {x2 : Int32} 
    (h : Ci Θ d 200 [.ref 124, .int x1] σ (fun v1 σ1 => ((v1 = 0 → Q (some (.int (-1))) σ1) ∧ (¬ v1 = 0 → Ci Θ d 200 [.ref 124, .int x2] σ1 (fun v3 σ3 => ((¬ v3 = 0 → Cv Θ d 198 [.ref 124] σ3 (fun σ5 => Ci Θ d 202 [.ref 124, .int x1, .int x2] σ5 (fun v6 σ6 => ((¬ v6 = 0 → Ci Θ d 202 [.ref 124, .int x2, .int x1] σ6 (fun v8 σ8 => ((v8 = 0 → Q (some (.int 1)) σ8) ∧ (¬ v8 = 0 → Q (some (.int 2)) σ8)))) ∧ (v6 = 0 → Q (some (.int 0)) σ6))))) ∧ (v3 = 0 → Q (some (.int (-1))) σ3))))))) :
    G Θ (d + 1) 203 0 [some (.ref 124), some (.int x1), some (.int x2)] [] σ Q := by
  refine r_aload_n ok203 0 rfl rfl rfl ?_
  refine r_iload_n ok203 1 rfl rfl rfl ?_
  refine r_invVi (as := [.int x1]) (S := []) ok203 2 rfl rfl mf200 rfl rfl (Nat.le_of_ble_eq_true rfl) rfl h (fun v1 σ1 h1 => ?_)
  refine r_if_eq ok203 3 rfl rfl (fun c2 => ?_) (fun c2 => ?_)
  · have h2 := h1.1 c2
    refine r_iconst (v := (-1)) ok203 8 rfl rfl rfl ?_
    exact r_iret ok203 9 rfl rfl rfl h2
  · have h2 := h1.2 c2
    refine r_aload_n ok203 4 rfl rfl rfl ?_
    refine r_iload_n ok203 5 rfl rfl rfl ?_
    refine r_invVi (as := [.int x2]) (S := []) ok203 6 rfl rfl mf200 rfl rfl (Nat.le_of_ble_eq_true rfl) rfl h2 (fun v3 σ3 h3 => ?_)
    refine r_if_ne ok203 7 rfl rfl (fun c4 => ?_) (fun c4 => ?_)
    · have h4 := h3.1 c4
      refine r_aload_n ok203 10 rfl rfl rfl ?_
      refine r_invVv (as := []) (S := []) ok203 11 rfl rfl mf198 rfl rfl (Nat.le_of_ble_eq_true rfl) rfl h4 (fun σ5 h5 => ?_)
      refine r_aload_n ok203 12 rfl rfl rfl ?_
      refine r_iload_n ok203 13 rfl rfl rfl ?_
      refine r_iload_n ok203 14 rfl rfl rfl ?_
      refine r_invVi (as := [.int x1, .int x2]) (S := []) ok203 15 rfl rfl mf202 rfl rfl (Nat.le_of_ble_eq_true rfl) rfl h5 (fun v6 σ6 h6 => ?_)
      refine r_if_ne ok203 16 rfl rfl (fun c7 => ?_) (fun c7 => ?_)
      · have h7 := h6.1 c7
        refine r_aload_n ok203 19 rfl rfl rfl ?_
        refine r_iload_n ok203 20 rfl rfl rfl ?_
        refine r_iload_n ok203 21 rfl rfl rfl ?_
        refine r_invVi (as := [.int x2, .int x1]) (S := []) ok203 22 rfl rfl mf202 rfl rfl (Nat.le_of_ble_eq_true rfl) rfl h7 (fun v8 σ8 h8 => ?_)
        refine r_if_eq ok203 23 rfl rfl (fun c9 => ?_) (fun c9 => ?_)
        · have h9 := h8.1 c9
          refine r_iconst (v := 1) ok203 26 rfl rfl rfl ?_
          exact r_iret ok203 27 rfl rfl rfl h9
        · have h9 := h8.2 c9
          refine r_iconst (v := 2) ok203 24 rfl rfl rfl ?_
          refine r_goto ok203 25 rfl rfl ?_
          exact r_iret ok203 27 rfl rfl rfl h9
      · have h7 := h6.2 c7
        refine r_iconst (v := 0) ok203 17 rfl rfl rfl ?_
        refine r_goto ok203 18 rfl rfl ?_
        exact r_iret ok203 27 rfl rfl rfl h7
    · have h4 := h3.2 c4
      refine r_iconst (v := (-1)) ok203 8 rfl rfl rfl ?_
      exact r_iret ok203 9 rfl rfl rfl h4

theorem K203 {Θ : Th} {d : Nat} {σ : Mem} {Q : Po} {x1 : Int32} {x2 : Int32} (h : G Θ (d + 1) 203 0 [some (.ref 124), some (.int x1), some (.int x2)] [] σ Q) : Cm Θ (d + 1) 203 [.ref 124, .int x1, .int x2] σ Q :=
  C_of_G okM203 (Nat.le_of_ble_eq_true rfl) rfl h

-- 204: LikeYearsModel.gapOf(II)I
set_option maxRecDepth 100000 in
set_option maxHeartbeats 4000000 in
theorem B204_0 {Θ : Th} {d : Nat} {σ : Mem} {Q : Po} {x1 : Int32} {x2 : Int32} 
    (h : Ci Θ d 202 [.ref 124, .int x1, .int x2] σ (fun v1 σ1 => ((v1 = 0 → Q (some (.int 0)) σ1) ∧ (¬ v1 = 0 → (vp_in x1 16 ∧ (vp_in x2 16 ∧ (((σ1.1 143 x2.toNatClampNeg) ≤ (σ1.1 143 x1.toNatClampNeg) → Q (some (.int 0)) σ1) ∧ (¬ (σ1.1 143 x2.toNatClampNeg) ≤ (σ1.1 143 x1.toNatClampNeg) → (vp_in x2 16 ∧ (vp_in x1 16 ∧ Q (some (.int ((σ1.1 143 x2.toNatClampNeg) - (σ1.1 143 x1.toNatClampNeg)))) σ1)))))))))) :
    G Θ (d + 1) 204 0 [some (.ref 124), some (.int x1), some (.int x2)] [] σ Q := by
  refine r_aload_n ok204 0 rfl rfl rfl ?_
  refine r_iload_n ok204 1 rfl rfl rfl ?_
  refine r_iload_n ok204 2 rfl rfl rfl ?_
  refine r_invVi (as := [.int x1, .int x2]) (S := []) ok204 3 rfl rfl mf202 rfl rfl (Nat.le_of_ble_eq_true rfl) rfl h (fun v1 σ1 h1 => ?_)
  refine r_if_eq ok204 4 rfl rfl (fun c2 => ?_) (fun c2 => ?_)
  · have h2 := h1.1 c2
    refine r_iconst (v := 0) ok204 24 rfl rfl rfl ?_
    exact r_iret ok204 25 rfl rfl rfl h2
  · have h2 := h1.2 c2
    refine r_aload_n ok204 5 rfl rfl rfl ?_
    refine r_getF ok204 6 rfl rfl rfl rfl ?_
    refine r_iload_n ok204 7 rfl rfl rfl ?_
    obtain ⟨c3, h3⟩ := h2
    refine r_iald ok204 8 rfl rfl rfl c3 ?_
    refine r_aload_n ok204 9 rfl rfl rfl ?_
    refine r_getF ok204 10 rfl rfl rfl rfl ?_
    refine r_iload_n ok204 11 rfl rfl rfl ?_
    obtain ⟨c4, h4⟩ := h3
    refine r_iald ok204 12 rfl rfl rfl c4 ?_
    refine r_icmp_ge ok204 13 rfl rfl (fun c5 => ?_) (fun c5 => ?_)
    · have h5 := h4.1 c5
      refine r_iconst (v := 0) ok204 24 rfl rfl rfl ?_
      exact r_iret ok204 25 rfl rfl rfl h5
    · have h5 := h4.2 c5
      refine r_aload_n ok204 14 rfl rfl rfl ?_
      refine r_getF ok204 15 rfl rfl rfl rfl ?_
      refine r_iload_n ok204 16 rfl rfl rfl ?_
      obtain ⟨c6, h6⟩ := h5
      refine r_iald ok204 17 rfl rfl rfl c6 ?_
      refine r_aload_n ok204 18 rfl rfl rfl ?_
      refine r_getF ok204 19 rfl rfl rfl rfl ?_
      refine r_iload_n ok204 20 rfl rfl rfl ?_
      obtain ⟨c7, h7⟩ := h6
      refine r_iald ok204 21 rfl rfl rfl c7 ?_
      refine r_isub ok204 22 rfl rfl ?_
      refine r_goto ok204 23 rfl rfl ?_
      exact r_iret ok204 25 rfl rfl rfl h7

theorem K204 {Θ : Th} {d : Nat} {σ : Mem} {Q : Po} {x1 : Int32} {x2 : Int32} (h : G Θ (d + 1) 204 0 [some (.ref 124), some (.int x1), some (.int x2)] [] σ Q) : Cm Θ (d + 1) 204 [.ref 124, .int x1, .int x2] σ Q :=
  C_of_G okM204 (Nat.le_of_ble_eq_true rfl) rfl h

-- 205: LikeYearsModel.eitherGap(II)I
set_option maxRecDepth 100000 in
set_option maxHeartbeats 4000000 in
theorem B205_0 {Θ : Th} {d : Nat} {σ : Mem} {Q : Po} {x1 : Int32} {x2 : Int32} 
    (h : Ci Θ d 204 [.ref 124, .int x1, .int x2] σ (fun v1 σ1 => Ci Θ d 204 [.ref 124, .int x2, .int x1] σ1 (fun v2 σ2 => Q (some (.int (v1 + v2))) σ2))) :
    G Θ (d + 1) 205 0 [some (.ref 124), some (.int x1), some (.int x2)] [] σ Q := by
  refine r_aload_n ok205 0 rfl rfl rfl ?_
  refine r_iload_n ok205 1 rfl rfl rfl ?_
  refine r_iload_n ok205 2 rfl rfl rfl ?_
  refine r_invVi (as := [.int x1, .int x2]) (S := []) ok205 3 rfl rfl mf204 rfl rfl (Nat.le_of_ble_eq_true rfl) rfl h (fun v1 σ1 h1 => ?_)
  refine r_aload_n ok205 4 rfl rfl rfl ?_
  refine r_iload_n ok205 5 rfl rfl rfl ?_
  refine r_iload_n ok205 6 rfl rfl rfl ?_
  refine r_invVi (as := [.int x2, .int x1]) (S := [.int v1]) ok205 7 rfl rfl mf204 rfl rfl (Nat.le_of_ble_eq_true rfl) rfl h1 (fun v2 σ2 h2 => ?_)
  refine r_iadd ok205 8 rfl rfl ?_
  exact r_iret ok205 9 rfl rfl rfl h2

theorem K205 {Θ : Th} {d : Nat} {σ : Mem} {Q : Po} {x1 : Int32} {x2 : Int32} (h : G Θ (d + 1) 205 0 [some (.ref 124), some (.int x1), some (.int x2)] [] σ Q) : Cm Θ (d + 1) 205 [.ref 124, .int x1, .int x2] σ Q :=
  C_of_G okM205 (Nat.le_of_ble_eq_true rfl) rfl h

-- 206: LikeYearsModel.clashes()I
set_option maxRecDepth 100000 in
set_option maxHeartbeats 4000000 in
theorem B206_0 {Θ : Th} {d : Nat} {σ : Mem} {Q : Po} 
    (h : G Θ (d + 1) 206 4 [some (.ref 124), some (.int 0), some (.int 0), none] [] σ Q) :
    G Θ (d + 1) 206 0 [some (.ref 124), none, none, none] [] σ Q := by
  refine r_iconst (v := 0) ok206 0 rfl rfl rfl ?_
  refine r_istore_n ok206 1 rfl rfl ?_
  refine r_iconst (v := 0) ok206 2 rfl rfl rfl ?_
  refine r_istore_n ok206 3 rfl rfl ?_
  exact h

set_option maxRecDepth 100000 in
set_option maxHeartbeats 4000000 in
theorem B206_4 {Θ : Th} {d : Nat} {σ : Mem} {Q : Po} {x1 : Int32} {x2 : Int32} 
    (h : (((σ.1 124 38) ≤ x2 → Q (some (.int x1)) σ) ∧ (¬ (σ.1 124 38) ≤ x2 → G Θ (d + 1) 206 14 [some (.ref 124), some (.int x1), some (.int x2), some (.int 0)] [] σ Q))) :
    G Θ (d + 1) 206 4 [some (.ref 124), some (.int x1), some (.int x2), none] [] σ Q := by
  refine r_iload_n ok206 4 rfl rfl rfl ?_
  refine r_aload_n ok206 5 rfl rfl rfl ?_
  refine r_getI ok206 6 rfl rfl rfl rfl ?_
  refine r_icmp_ge ok206 7 rfl rfl (fun c1 => ?_) (fun c1 => ?_)
  · have h1 := h.1 c1
    refine r_iload_n ok206 29 rfl rfl rfl ?_
    exact r_iret ok206 30 rfl rfl rfl h1
  · have h1 := h.2 c1
    refine r_iconst (v := 0) ok206 8 rfl rfl rfl ?_
    refine r_istore_n ok206 9 rfl rfl ?_
    exact h1

set_option maxRecDepth 100000 in
set_option maxHeartbeats 4000000 in
theorem B206_14 {Θ : Th} {d : Nat} {σ : Mem} {Q : Po} {x1 : Int32} {x2 : Int32} {x3 : Int32} 
    (h : (((σ.1 124 38) ≤ x3 → G Θ (d + 1) 206 4 [some (.ref 124), some (.int x1), some (.int (x2 + 1)), none] [] σ Q) ∧ (¬ (σ.1 124 38) ≤ x3 → Ci Θ d 204 [.ref 124, .int x2, .int x3] σ (fun v2 σ2 => ((v2 ≤ 0 → G Θ (d + 1) 206 14 [some (.ref 124), some (.int (x1 + 0)), some (.int x2), some (.int (x3 + 1))] [] σ2 Q) ∧ (¬ v2 ≤ 0 → G Θ (d + 1) 206 14 [some (.ref 124), some (.int (x1 + 1)), some (.int x2), some (.int (x3 + 1))] [] σ2 Q)))))) :
    G Θ (d + 1) 206 14 [some (.ref 124), some (.int x1), some (.int x2), some (.int x3)] [] σ Q := by
  refine r_iload_n ok206 10 rfl rfl rfl ?_
  refine r_aload_n ok206 11 rfl rfl rfl ?_
  refine r_getI ok206 12 rfl rfl rfl rfl ?_
  refine r_icmp_ge ok206 13 rfl rfl (fun c1 => ?_) (fun c1 => ?_)
  · have h1 := h.1 c1
    refine r_iinc (v := x2 + 1) ok206 27 rfl rfl rfl rfl ?_
    refine r_goto ok206 28 rfl rfl ?_
    exact G.weak (L' := [some (.ref 124), some (.int x1), some (.int (x2 + 1)), none]) ⟨rfl, ⟨rfl, ⟨rfl, trivial⟩⟩⟩ h1
  · have h1 := h.2 c1
    refine r_iload_n ok206 14 rfl rfl rfl ?_
    refine r_aload_n ok206 15 rfl rfl rfl ?_
    refine r_iload_n ok206 16 rfl rfl rfl ?_
    refine r_iload_n ok206 17 rfl rfl rfl ?_
    refine r_invVi (as := [.int x2, .int x3]) (S := [.int x1]) ok206 18 rfl rfl mf204 rfl rfl (Nat.le_of_ble_eq_true rfl) rfl h1 (fun v2 σ2 h2 => ?_)
    refine r_if_le ok206 19 rfl rfl (fun c3 => ?_) (fun c3 => ?_)
    · have h3 := h2.1 c3
      refine r_iconst (v := 0) ok206 22 rfl rfl rfl ?_
      refine r_iadd ok206 23 rfl rfl ?_
      refine r_istore_n ok206 24 rfl rfl ?_
      refine r_iinc (v := x3 + 1) ok206 25 rfl rfl rfl rfl ?_
      refine r_goto ok206 26 rfl rfl ?_
      exact h3
    · have h3 := h2.2 c3
      refine r_iconst (v := 1) ok206 20 rfl rfl rfl ?_
      refine r_goto ok206 21 rfl rfl ?_
      refine r_iadd ok206 23 rfl rfl ?_
      refine r_istore_n ok206 24 rfl rfl ?_
      refine r_iinc (v := x3 + 1) ok206 25 rfl rfl rfl rfl ?_
      refine r_goto ok206 26 rfl rfl ?_
      exact h3

theorem K206 {Θ : Th} {d : Nat} {σ : Mem} {Q : Po} (h : G Θ (d + 1) 206 0 [some (.ref 124), none, none, none] [] σ Q) : Cm Θ (d + 1) 206 [.ref 124] σ Q :=
  C_of_G okM206 (Nat.le_of_ble_eq_true rfl) rfl h

-- 207: LikeYearsModel.clash(I)I
set_option maxRecDepth 100000 in
set_option maxHeartbeats 4000000 in
theorem B207_0 {Θ : Th} {d : Nat} {σ : Mem} {Q : Po} {x1 : Int32} 
    (h : ((x1 < 0 → Q (some (.int (-1))) σ) ∧ (¬ x1 < 0 → ((x1 ≤ 2 → Cv Θ d 198 [.ref 124] σ (fun σ3 => G Θ (d + 1) 207 22 [some (.ref 124), some (.int x1), some (.int 0), some (.int 0), some (.int 0), none] [] σ3 Q)) ∧ (¬ x1 ≤ 2 → Q (some (.int (-1))) σ))))) :
    G Θ (d + 1) 207 0 [some (.ref 124), some (.int x1), none, none, none, none] [] σ Q := by
  refine r_iload_n ok207 0 rfl rfl rfl ?_
  refine r_if_lt ok207 1 rfl rfl (fun c1 => ?_) (fun c1 => ?_)
  · have h1 := h.1 c1
    refine r_iconst (v := (-1)) ok207 5 rfl rfl rfl ?_
    exact r_iret ok207 6 rfl rfl rfl h1
  · have h1 := h.2 c1
    refine r_iload_n ok207 2 rfl rfl rfl ?_
    refine r_iconst (v := 2) ok207 3 rfl rfl rfl ?_
    refine r_icmp_le ok207 4 rfl rfl (fun c2 => ?_) (fun c2 => ?_)
    · have h2 := h1.1 c2
      refine r_aload_n ok207 7 rfl rfl rfl ?_
      refine r_invVv (as := []) (S := []) ok207 8 rfl rfl mf198 rfl rfl (Nat.le_of_ble_eq_true rfl) rfl h2 (fun σ3 h3 => ?_)
      refine r_iconst (v := 0) ok207 9 rfl rfl rfl ?_
      refine r_istore_n ok207 10 rfl rfl ?_
      refine r_iconst (v := 0) ok207 11 rfl rfl rfl ?_
      refine r_istore_n ok207 12 rfl rfl ?_
      refine r_iconst (v := 0) ok207 13 rfl rfl rfl ?_
      refine r_istore ok207 14 rfl rfl ?_
      exact h3
    · have h2 := h1.2 c2
      refine r_iconst (v := (-1)) ok207 5 rfl rfl rfl ?_
      exact r_iret ok207 6 rfl rfl rfl h2

set_option maxRecDepth 100000 in
set_option maxHeartbeats 4000000 in
theorem B207_22 {Θ : Th} {d : Nat} {σ : Mem} {Q : Po} {x1 : Int32} {x2 : Int32} {x3 : Int32} {x4 : Int32} 
    (h : (((σ.1 124 38) ≤ x4 → ((¬ x1 = 0 → ((¬ x1 = 1 → Q (some (.int x3)) σ) ∧ (x1 = 1 → Q (some (.int x2)) σ))) ∧ (x1 = 0 → Ci Θ d 206 [.ref 124] σ (fun v4 σ4 => Q (some (.int v4)) σ4)))) ∧ (¬ (σ.1 124 38) ≤ x4 → G Θ (d + 1) 207 34 [some (.ref 124), some (.int x1), some (.int x2), some (.int x3), some (.int x4), some (.int 0)] [] σ Q))) :
    G Θ (d + 1) 207 22 [some (.ref 124), some (.int x1), some (.int x2), some (.int x3), some (.int x4), none] [] σ Q := by
  refine r_iload ok207 15 rfl rfl rfl ?_
  refine r_aload_n ok207 16 rfl rfl rfl ?_
  refine r_getI ok207 17 rfl rfl rfl rfl ?_
  refine r_icmp_ge ok207 18 rfl rfl (fun c1 => ?_) (fun c1 => ?_)
  · have h1 := h.1 c1
    refine r_iload_n ok207 49 rfl rfl rfl ?_
    refine r_if_ne ok207 50 rfl rfl (fun c2 => ?_) (fun c2 => ?_)
    · have h2 := h1.1 c2
      refine r_iload_n ok207 54 rfl rfl rfl ?_
      refine r_iconst (v := 1) ok207 55 rfl rfl rfl ?_
      refine r_icmp_ne ok207 56 rfl rfl (fun c3 => ?_) (fun c3 => ?_)
      · have h3 := h2.1 c3
        refine r_iload_n ok207 59 rfl rfl rfl ?_
        exact r_iret ok207 60 rfl rfl rfl h3
      · have h3 := h2.2 c3
        refine r_iload_n ok207 57 rfl rfl rfl ?_
        refine r_goto ok207 58 rfl rfl ?_
        exact r_iret ok207 60 rfl rfl rfl h3
    · have h2 := h1.2 c2
      refine r_aload_n ok207 51 rfl rfl rfl ?_
      refine r_invVi (as := []) (S := []) ok207 52 rfl rfl mf206 rfl rfl (Nat.le_of_ble_eq_true rfl) rfl h2 (fun v4 σ4 h4 => ?_)
      refine r_goto ok207 53 rfl rfl ?_
      exact r_iret ok207 60 rfl rfl rfl h4
  · have h1 := h.2 c1
    refine r_iconst (v := 0) ok207 19 rfl rfl rfl ?_
    refine r_istore ok207 20 rfl rfl ?_
    exact h1

set_option maxRecDepth 100000 in
set_option maxHeartbeats 4000000 in
theorem B207_34 {Θ : Th} {d : Nat} {σ : Mem} {Q : Po} {x1 : Int32} {x2 : Int32} {x3 : Int32} {x4 : Int32} {x5 : Int32} 
    (h : (((σ.1 124 38) ≤ x5 → G Θ (d + 1) 207 22 [some (.ref 124), some (.int x1), some (.int x2), some (.int x3), some (.int (x4 + 1)), none] [] σ Q) ∧ (¬ (σ.1 124 38) ≤ x5 → Ci Θ d 204 [.ref 124, .int x4, .int x5] σ (fun v2 σ2 => Ci Θ d 204 [.ref 124, .int x4, .int x5] σ2 (fun v3 σ3 => ((v3 ≤ x3 → G Θ (d + 1) 207 34 [some (.ref 124), some (.int x1), some (.int (x2 + v2)), some (.int x3), some (.int x4), some (.int (x5 + 1))] [] σ3 Q) ∧ (¬ v3 ≤ x3 → Ci Θ d 204 [.ref 124, .int x4, .int x5] σ3 (fun v5 σ5 => G Θ (d + 1) 207 34 [some (.ref 124), some (.int x1), some (.int (x2 + v2)), some (.int v5), some (.int x4), some (.int (x5 + 1))] [] σ5 Q)))))))) :
    G Θ (d + 1) 207 34 [some (.ref 124), some (.int x1), some (.int x2), some (.int x3), some (.int x4), some (.int x5)] [] σ Q := by
  refine r_iload ok207 21 rfl rfl rfl ?_
  refine r_aload_n ok207 22 rfl rfl rfl ?_
  refine r_getI ok207 23 rfl rfl rfl rfl ?_
  refine r_icmp_ge ok207 24 rfl rfl (fun c1 => ?_) (fun c1 => ?_)
  · have h1 := h.1 c1
    refine r_iinc (v := x4 + 1) ok207 47 rfl rfl rfl rfl ?_
    refine r_goto ok207 48 rfl rfl ?_
    exact G.weak (L' := [some (.ref 124), some (.int x1), some (.int x2), some (.int x3), some (.int (x4 + 1)), none]) ⟨rfl, ⟨rfl, ⟨rfl, ⟨rfl, ⟨rfl, trivial⟩⟩⟩⟩⟩ h1
  · have h1 := h.2 c1
    refine r_iload_n ok207 25 rfl rfl rfl ?_
    refine r_aload_n ok207 26 rfl rfl rfl ?_
    refine r_iload ok207 27 rfl rfl rfl ?_
    refine r_iload ok207 28 rfl rfl rfl ?_
    refine r_invVi (as := [.int x4, .int x5]) (S := [.int x2]) ok207 29 rfl rfl mf204 rfl rfl (Nat.le_of_ble_eq_true rfl) rfl h1 (fun v2 σ2 h2 => ?_)
    refine r_iadd ok207 30 rfl rfl ?_
    refine r_istore_n ok207 31 rfl rfl ?_
    refine r_aload_n ok207 32 rfl rfl rfl ?_
    refine r_iload ok207 33 rfl rfl rfl ?_
    refine r_iload ok207 34 rfl rfl rfl ?_
    refine r_invVi (as := [.int x4, .int x5]) (S := []) ok207 35 rfl rfl mf204 rfl rfl (Nat.le_of_ble_eq_true rfl) rfl h2 (fun v3 σ3 h3 => ?_)
    refine r_iload_n ok207 36 rfl rfl rfl ?_
    refine r_icmp_le ok207 37 rfl rfl (fun c4 => ?_) (fun c4 => ?_)
    · have h4 := h3.1 c4
      refine r_iload_n ok207 43 rfl rfl rfl ?_
      refine r_istore_n ok207 44 rfl rfl ?_
      refine r_iinc (v := x5 + 1) ok207 45 rfl rfl rfl rfl ?_
      refine r_goto ok207 46 rfl rfl ?_
      exact h4
    · have h4 := h3.2 c4
      refine r_aload_n ok207 38 rfl rfl rfl ?_
      refine r_iload ok207 39 rfl rfl rfl ?_
      refine r_iload ok207 40 rfl rfl rfl ?_
      refine r_invVi (as := [.int x4, .int x5]) (S := []) ok207 41 rfl rfl mf204 rfl rfl (Nat.le_of_ble_eq_true rfl) rfl h4 (fun v5 σ5 h5 => ?_)
      refine r_goto ok207 42 rfl rfl ?_
      refine r_istore_n ok207 44 rfl rfl ?_
      refine r_iinc (v := x5 + 1) ok207 45 rfl rfl rfl rfl ?_
      refine r_goto ok207 46 rfl rfl ?_
      exact h5

theorem K207 {Θ : Th} {d : Nat} {σ : Mem} {Q : Po} {x1 : Int32} (h : G Θ (d + 1) 207 0 [some (.ref 124), some (.int x1), none, none, none, none] [] σ Q) : Cm Θ (d + 1) 207 [.ref 124, .int x1] σ Q :=
  C_of_G okM207 (Nat.le_of_ble_eq_true rfl) rfl h

-- 208: LikeYearsModel.oddest(I)I
set_option maxRecDepth 100000 in
set_option maxHeartbeats 4000000 in
theorem B208_0 {Θ : Th} {d : Nat} {σ : Mem} {Q : Po} {x1 : Int32} 
    (h : ((x1 < 0 → Q (some (.int (-1))) σ) ∧ (¬ x1 < 0 → ((x1 ≤ 2 → Cv Θ d 198 [.ref 124] σ (fun σ3 => G Θ (d + 1) 208 25 [some (.ref 124), some (.int x1), some (.int (-1)), some (.int 0), some (.int 0), some (.int 0), none, none, none] [] σ3 Q)) ∧ (¬ x1 ≤ 2 → Q (some (.int (-1))) σ))))) :
    G Θ (d + 1) 208 0 [some (.ref 124), some (.int x1), none, none, none, none, none, none, none] [] σ Q := by
  refine r_iload_n ok208 0 rfl rfl rfl ?_
  refine r_if_lt ok208 1 rfl rfl (fun c1 => ?_) (fun c1 => ?_)
  · have h1 := h.1 c1
    refine r_iconst (v := (-1)) ok208 5 rfl rfl rfl ?_
    exact r_iret ok208 6 rfl rfl rfl h1
  · have h1 := h.2 c1
    refine r_iload_n ok208 2 rfl rfl rfl ?_
    refine r_iconst (v := 2) ok208 3 rfl rfl rfl ?_
    refine r_icmp_le ok208 4 rfl rfl (fun c2 => ?_) (fun c2 => ?_)
    · have h2 := h1.1 c2
      refine r_aload_n ok208 7 rfl rfl rfl ?_
      refine r_invVv (as := []) (S := []) ok208 8 rfl rfl mf198 rfl rfl (Nat.le_of_ble_eq_true rfl) rfl h2 (fun σ3 h3 => ?_)
      refine r_iconst (v := (-1)) ok208 9 rfl rfl rfl ?_
      refine r_istore_n ok208 10 rfl rfl ?_
      refine r_iconst (v := 0) ok208 11 rfl rfl rfl ?_
      refine r_istore_n ok208 12 rfl rfl ?_
      refine r_iconst (v := 0) ok208 13 rfl rfl rfl ?_
      refine r_istore ok208 14 rfl rfl ?_
      refine r_iconst (v := 0) ok208 15 rfl rfl rfl ?_
      refine r_istore ok208 16 rfl rfl ?_
      exact h3
    · have h2 := h1.2 c2
      refine r_iconst (v := (-1)) ok208 5 rfl rfl rfl ?_
      exact r_iret ok208 6 rfl rfl rfl h2

set_option maxRecDepth 100000 in
set_option maxHeartbeats 4000000 in
theorem B208_25 {Θ : Th} {d : Nat} {σ : Mem} {Q : Po} {x1 : Int32} {x2 : Int32} {x3 : Int32} {x4 : Int32} {x5 : Int32} 
    (h : (((σ.1 124 38) ≤ x5 → ((0 ≤ x2 → ((¬ x1 = 0 → ((¬ x1 = 1 → Q (some (.int x4)) σ) ∧ (x1 = 1 → Q (some (.int x3)) σ))) ∧ (x1 = 0 → Q (some (.int x2)) σ))) ∧ (¬ 0 ≤ x2 → Q (some (.int (-1))) σ))) ∧ (¬ (σ.1 124 38) ≤ x5 → G Θ (d + 1) 208 43 [some (.ref 124), some (.int x1), some (.int x2), some (.int x3), some (.int x4), some (.int x5), some (.int 0), some (.int 0), some (.int 0)] [] σ Q))) :
    G Θ (d + 1) 208 25 [some (.ref 124), some (.int x1), some (.int x2), some (.int x3), some (.int x4), some (.int x5), none, none, none] [] σ Q := by
  refine r_iload ok208 17 rfl rfl rfl ?_
  refine r_aload_n ok208 18 rfl rfl rfl ?_
  refine r_getI ok208 19 rfl rfl rfl rfl ?_
  refine r_icmp_ge ok208 20 rfl rfl (fun c1 => ?_) (fun c1 => ?_)
  · have h1 := h.1 c1
    refine r_iload_n ok208 71 rfl rfl rfl ?_
    refine r_if_ge ok208 72 rfl rfl (fun c2 => ?_) (fun c2 => ?_)
    · have h2 := h1.1 c2
      refine r_iload_n ok208 75 rfl rfl rfl ?_
      refine r_if_ne ok208 76 rfl rfl (fun c3 => ?_) (fun c3 => ?_)
      · have h3 := h2.1 c3
        refine r_iload_n ok208 79 rfl rfl rfl ?_
        refine r_iconst (v := 1) ok208 80 rfl rfl rfl ?_
        refine r_icmp_ne ok208 81 rfl rfl (fun c4 => ?_) (fun c4 => ?_)
        · have h4 := h3.1 c4
          refine r_iload ok208 84 rfl rfl rfl ?_
          exact r_iret ok208 85 rfl rfl rfl h4
        · have h4 := h3.2 c4
          refine r_iload_n ok208 82 rfl rfl rfl ?_
          refine r_goto ok208 83 rfl rfl ?_
          exact r_iret ok208 85 rfl rfl rfl h4
      · have h3 := h2.2 c3
        refine r_iload_n ok208 77 rfl rfl rfl ?_
        refine r_goto ok208 78 rfl rfl ?_
        exact r_iret ok208 85 rfl rfl rfl h3
    · have h2 := h1.2 c2
      refine r_iconst (v := (-1)) ok208 73 rfl rfl rfl ?_
      refine r_goto ok208 74 rfl rfl ?_
      exact r_iret ok208 85 rfl rfl rfl h2
  · have h1 := h.2 c1
    refine r_iconst (v := 0) ok208 21 rfl rfl rfl ?_
    refine r_istore ok208 22 rfl rfl ?_
    refine r_iconst (v := 0) ok208 23 rfl rfl rfl ?_
    refine r_istore ok208 24 rfl rfl ?_
    refine r_iconst (v := 0) ok208 25 rfl rfl rfl ?_
    refine r_istore ok208 26 rfl rfl ?_
    exact h1

set_option maxRecDepth 100000 in
set_option maxHeartbeats 4000000 in
theorem B208_43 {Θ : Th} {d : Nat} {σ : Mem} {Q : Po} {x1 : Int32} {x2 : Int32} {x3 : Int32} {x4 : Int32} {x5 : Int32} {x6 : Int32} {x7 : Int32} {x8 : Int32} 
    (h : (((σ.1 124 38) ≤ x8 → ((x6 = 0 → G Θ (d + 1) 208 25 [some (.ref 124), some (.int x1), some (.int x2), some (.int x3), some (.int x4), some (.int (x5 + 1)), none, none, none] [] σ Q) ∧ (¬ x6 = 0 → ((x6 < x3 → G Θ (d + 1) 208 25 [some (.ref 124), some (.int x1), some (.int x2), some (.int x3), some (.int x4), some (.int (x5 + 1)), none, none, none] [] σ Q) ∧ (¬ x6 < x3 → ((¬ x6 = x3 → G Θ (d + 1) 208 25 [some (.ref 124), some (.int x1), some (.int x5), some (.int x6), some (.int x7), some (.int (x5 + 1)), none, none, none] [] σ Q) ∧ (x6 = x3 → ((x4 < x7 → G Θ (d + 1) 208 25 [some (.ref 124), some (.int x1), some (.int x5), some (.int x6), some (.int x7), some (.int (x5 + 1)), none, none, none] [] σ Q) ∧ (¬ x4 < x7 → G Θ (d + 1) 208 25 [some (.ref 124), some (.int x1), some (.int x2), some (.int x3), some (.int x4), some (.int (x5 + 1)), none, none, none] [] σ Q))))))))) ∧ (¬ (σ.1 124 38) ≤ x8 → Ci Θ d 205 [.ref 124, .int x5, .int x8] σ (fun v6 σ6 => ((v6 ≤ 0 → Ci Θ d 205 [.ref 124, .int x5, .int x8] σ6 (fun v8 σ8 => G Θ (d + 1) 208 43 [some (.ref 124), some (.int x1), some (.int x2), some (.int x3), some (.int x4), some (.int x5), some (.int (x6 + 0)), some (.int (x7 + v8)), some (.int (x8 + 1))] [] σ8 Q)) ∧ (¬ v6 ≤ 0 → Ci Θ d 205 [.ref 124, .int x5, .int x8] σ6 (fun v9 σ9 => G Θ (d + 1) 208 43 [some (.ref 124), some (.int x1), some (.int x2), some (.int x3), some (.int x4), some (.int x5), some (.int (x6 + 1)), some (.int (x7 + v9)), some (.int (x8 + 1))] [] σ9 Q))))))) :
    G Θ (d + 1) 208 43 [some (.ref 124), some (.int x1), some (.int x2), some (.int x3), some (.int x4), some (.int x5), some (.int x6), some (.int x7), some (.int x8)] [] σ Q := by
  refine r_iload ok208 27 rfl rfl rfl ?_
  refine r_aload_n ok208 28 rfl rfl rfl ?_
  refine r_getI ok208 29 rfl rfl rfl rfl ?_
  refine r_icmp_ge ok208 30 rfl rfl (fun c1 => ?_) (fun c1 => ?_)
  · have h1 := h.1 c1
    refine r_iload ok208 51 rfl rfl rfl ?_
    refine r_if_eq ok208 52 rfl rfl (fun c2 => ?_) (fun c2 => ?_)
    · have h2 := h1.1 c2
      refine r_iinc (v := x5 + 1) ok208 69 rfl rfl rfl rfl ?_
      refine r_goto ok208 70 rfl rfl ?_
      exact G.weak (L' := [some (.ref 124), some (.int x1), some (.int x2), some (.int x3), some (.int x4), some (.int (x5 + 1)), none, none, none]) ⟨rfl, ⟨rfl, ⟨rfl, ⟨rfl, ⟨rfl, ⟨rfl, trivial⟩⟩⟩⟩⟩⟩ h2
    · have h2 := h1.2 c2
      refine r_iload ok208 53 rfl rfl rfl ?_
      refine r_iload_n ok208 54 rfl rfl rfl ?_
      refine r_icmp_lt ok208 55 rfl rfl (fun c3 => ?_) (fun c3 => ?_)
      · have h3 := h2.1 c3
        refine r_iinc (v := x5 + 1) ok208 69 rfl rfl rfl rfl ?_
        refine r_goto ok208 70 rfl rfl ?_
        exact G.weak (L' := [some (.ref 124), some (.int x1), some (.int x2), some (.int x3), some (.int x4), some (.int (x5 + 1)), none, none, none]) ⟨rfl, ⟨rfl, ⟨rfl, ⟨rfl, ⟨rfl, ⟨rfl, trivial⟩⟩⟩⟩⟩⟩ h3
      · have h3 := h2.2 c3
        refine r_iload ok208 56 rfl rfl rfl ?_
        refine r_iload_n ok208 57 rfl rfl rfl ?_
        refine r_icmp_ne ok208 58 rfl rfl (fun c4 => ?_) (fun c4 => ?_)
        · have h4 := h3.1 c4
          refine r_iload ok208 63 rfl rfl rfl ?_
          refine r_istore_n ok208 64 rfl rfl ?_
          refine r_iload ok208 65 rfl rfl rfl ?_
          refine r_istore_n ok208 66 rfl rfl ?_
          refine r_iload ok208 67 rfl rfl rfl ?_
          refine r_istore ok208 68 rfl rfl ?_
          refine r_iinc (v := x5 + 1) ok208 69 rfl rfl rfl rfl ?_
          refine r_goto ok208 70 rfl rfl ?_
          exact G.weak (L' := [some (.ref 124), some (.int x1), some (.int x5), some (.int x6), some (.int x7), some (.int (x5 + 1)), none, none, none]) ⟨rfl, ⟨rfl, ⟨rfl, ⟨rfl, ⟨rfl, ⟨rfl, trivial⟩⟩⟩⟩⟩⟩ h4
        · have h4 := h3.2 c4
          refine r_iload ok208 59 rfl rfl rfl ?_
          refine r_iload ok208 60 rfl rfl rfl ?_
          refine r_icmp_gt ok208 61 rfl rfl (fun c5 => ?_) (fun c5 => ?_)
          · have h5 := h4.1 c5
            refine r_iload ok208 63 rfl rfl rfl ?_
            refine r_istore_n ok208 64 rfl rfl ?_
            refine r_iload ok208 65 rfl rfl rfl ?_
            refine r_istore_n ok208 66 rfl rfl ?_
            refine r_iload ok208 67 rfl rfl rfl ?_
            refine r_istore ok208 68 rfl rfl ?_
            refine r_iinc (v := x5 + 1) ok208 69 rfl rfl rfl rfl ?_
            refine r_goto ok208 70 rfl rfl ?_
            exact G.weak (L' := [some (.ref 124), some (.int x1), some (.int x5), some (.int x6), some (.int x7), some (.int (x5 + 1)), none, none, none]) ⟨rfl, ⟨rfl, ⟨rfl, ⟨rfl, ⟨rfl, ⟨rfl, trivial⟩⟩⟩⟩⟩⟩ h5
          · have h5 := h4.2 c5
            refine r_goto ok208 62 rfl rfl ?_
            refine r_iinc (v := x5 + 1) ok208 69 rfl rfl rfl rfl ?_
            refine r_goto ok208 70 rfl rfl ?_
            exact G.weak (L' := [some (.ref 124), some (.int x1), some (.int x2), some (.int x3), some (.int x4), some (.int (x5 + 1)), none, none, none]) ⟨rfl, ⟨rfl, ⟨rfl, ⟨rfl, ⟨rfl, ⟨rfl, trivial⟩⟩⟩⟩⟩⟩ h5
  · have h1 := h.2 c1
    refine r_iload ok208 31 rfl rfl rfl ?_
    refine r_aload_n ok208 32 rfl rfl rfl ?_
    refine r_iload ok208 33 rfl rfl rfl ?_
    refine r_iload ok208 34 rfl rfl rfl ?_
    refine r_invVi (as := [.int x5, .int x8]) (S := [.int x6]) ok208 35 rfl rfl mf205 rfl rfl (Nat.le_of_ble_eq_true rfl) rfl h1 (fun v6 σ6 h6 => ?_)
    refine r_if_le ok208 36 rfl rfl (fun c7 => ?_) (fun c7 => ?_)
    · have h7 := h6.1 c7
      refine r_iconst (v := 0) ok208 39 rfl rfl rfl ?_
      refine r_iadd ok208 40 rfl rfl ?_
      refine r_istore ok208 41 rfl rfl ?_
      refine r_iload ok208 42 rfl rfl rfl ?_
      refine r_aload_n ok208 43 rfl rfl rfl ?_
      refine r_iload ok208 44 rfl rfl rfl ?_
      refine r_iload ok208 45 rfl rfl rfl ?_
      refine r_invVi (as := [.int x5, .int x8]) (S := [.int x7]) ok208 46 rfl rfl mf205 rfl rfl (Nat.le_of_ble_eq_true rfl) rfl h7 (fun v8 σ8 h8 => ?_)
      refine r_iadd ok208 47 rfl rfl ?_
      refine r_istore ok208 48 rfl rfl ?_
      refine r_iinc (v := x8 + 1) ok208 49 rfl rfl rfl rfl ?_
      refine r_goto ok208 50 rfl rfl ?_
      exact h8
    · have h7 := h6.2 c7
      refine r_iconst (v := 1) ok208 37 rfl rfl rfl ?_
      refine r_goto ok208 38 rfl rfl ?_
      refine r_iadd ok208 40 rfl rfl ?_
      refine r_istore ok208 41 rfl rfl ?_
      refine r_iload ok208 42 rfl rfl rfl ?_
      refine r_aload_n ok208 43 rfl rfl rfl ?_
      refine r_iload ok208 44 rfl rfl rfl ?_
      refine r_iload ok208 45 rfl rfl rfl ?_
      refine r_invVi (as := [.int x5, .int x8]) (S := [.int x7]) ok208 46 rfl rfl mf205 rfl rfl (Nat.le_of_ble_eq_true rfl) rfl h7 (fun v9 σ9 h9 => ?_)
      refine r_iadd ok208 47 rfl rfl ?_
      refine r_istore ok208 48 rfl rfl ?_
      refine r_iinc (v := x8 + 1) ok208 49 rfl rfl rfl rfl ?_
      refine r_goto ok208 50 rfl rfl ?_
      exact h9

theorem K208 {Θ : Th} {d : Nat} {σ : Mem} {Q : Po} {x1 : Int32} (h : G Θ (d + 1) 208 0 [some (.ref 124), some (.int x1), none, none, none, none, none, none, none] [] σ Q) : Cm Θ (d + 1) 208 [.ref 124, .int x1] σ Q :=
  C_of_G okM208 (Nat.le_of_ble_eq_true rfl) rfl h

-- 209: LikeYearsModel.beside(I)I
set_option maxRecDepth 100000 in
set_option maxHeartbeats 4000000 in
theorem B209_0 {Θ : Th} {d : Nat} {σ : Mem} {Q : Po} {x1 : Int32} 
    (h : Ci Θ d 200 [.ref 124, .int x1] σ (fun v1 σ1 => ((¬ v1 = 0 → Cv Θ d 198 [.ref 124] σ1 (fun σ3 => G Θ (d + 1) 209 21 [some (.ref 124), some (.int x1), some (.int (-1)), some (.int 0), some (.int 0)] [] σ3 Q)) ∧ (v1 = 0 → Q (some (.int (-1))) σ1)))) :
    G Θ (d + 1) 209 0 [some (.ref 124), some (.int x1), none, none, none] [] σ Q := by
  refine r_aload_n ok209 0 rfl rfl rfl ?_
  refine r_iload_n ok209 1 rfl rfl rfl ?_
  refine r_invVi (as := [.int x1]) (S := []) ok209 2 rfl rfl mf200 rfl rfl (Nat.le_of_ble_eq_true rfl) rfl h (fun v1 σ1 h1 => ?_)
  refine r_if_ne ok209 3 rfl rfl (fun c2 => ?_) (fun c2 => ?_)
  · have h2 := h1.1 c2
    refine r_aload_n ok209 6 rfl rfl rfl ?_
    refine r_invVv (as := []) (S := []) ok209 7 rfl rfl mf198 rfl rfl (Nat.le_of_ble_eq_true rfl) rfl h2 (fun σ3 h3 => ?_)
    refine r_iconst (v := (-1)) ok209 8 rfl rfl rfl ?_
    refine r_istore_n ok209 9 rfl rfl ?_
    refine r_iconst (v := 0) ok209 10 rfl rfl rfl ?_
    refine r_istore_n ok209 11 rfl rfl ?_
    refine r_iconst (v := 0) ok209 12 rfl rfl rfl ?_
    refine r_istore ok209 13 rfl rfl ?_
    exact h3
  · have h2 := h1.2 c2
    refine r_iconst (v := (-1)) ok209 4 rfl rfl rfl ?_
    exact r_iret ok209 5 rfl rfl rfl h2

set_option maxRecDepth 100000 in
set_option maxHeartbeats 4000000 in
theorem B209_21 {Θ : Th} {d : Nat} {σ : Mem} {Q : Po} {x1 : Int32} {x2 : Int32} {x3 : Int32} {x4 : Int32} 
    (h : (((σ.1 124 38) ≤ x4 → Q (some (.int x2)) σ) ∧ (¬ (σ.1 124 38) ≤ x4 → Ci Θ d 205 [.ref 124, .int x1, .int x4] σ (fun v2 σ2 => ((x3 < v2 → Ci Θ d 205 [.ref 124, .int x1, .int x4] σ2 (fun v4 σ4 => G Θ (d + 1) 209 21 [some (.ref 124), some (.int x1), some (.int x4), some (.int v4), some (.int (x4 + 1))] [] σ4 Q)) ∧ (¬ x3 < v2 → G Θ (d + 1) 209 21 [some (.ref 124), some (.int x1), some (.int x2), some (.int x3), some (.int (x4 + 1))] [] σ2 Q)))))) :
    G Θ (d + 1) 209 21 [some (.ref 124), some (.int x1), some (.int x2), some (.int x3), some (.int x4)] [] σ Q := by
  refine r_iload ok209 14 rfl rfl rfl ?_
  refine r_aload_n ok209 15 rfl rfl rfl ?_
  refine r_getI ok209 16 rfl rfl rfl rfl ?_
  refine r_icmp_ge ok209 17 rfl rfl (fun c1 => ?_) (fun c1 => ?_)
  · have h1 := h.1 c1
    refine r_iload_n ok209 34 rfl rfl rfl ?_
    exact r_iret ok209 35 rfl rfl rfl h1
  · have h1 := h.2 c1
    refine r_aload_n ok209 18 rfl rfl rfl ?_
    refine r_iload_n ok209 19 rfl rfl rfl ?_
    refine r_iload ok209 20 rfl rfl rfl ?_
    refine r_invVi (as := [.int x1, .int x4]) (S := []) ok209 21 rfl rfl mf205 rfl rfl (Nat.le_of_ble_eq_true rfl) rfl h1 (fun v2 σ2 h2 => ?_)
    refine r_iload_n ok209 22 rfl rfl rfl ?_
    refine r_icmp_gt ok209 23 rfl rfl (fun c3 => ?_) (fun c3 => ?_)
    · have h3 := h2.1 c3
      refine r_iload ok209 25 rfl rfl rfl ?_
      refine r_istore_n ok209 26 rfl rfl ?_
      refine r_aload_n ok209 27 rfl rfl rfl ?_
      refine r_iload_n ok209 28 rfl rfl rfl ?_
      refine r_iload ok209 29 rfl rfl rfl ?_
      refine r_invVi (as := [.int x1, .int x4]) (S := []) ok209 30 rfl rfl mf205 rfl rfl (Nat.le_of_ble_eq_true rfl) rfl h3 (fun v4 σ4 h4 => ?_)
      refine r_istore_n ok209 31 rfl rfl ?_
      refine r_iinc (v := x4 + 1) ok209 32 rfl rfl rfl rfl ?_
      refine r_goto ok209 33 rfl rfl ?_
      exact h4
    · have h3 := h2.2 c3
      refine r_goto ok209 24 rfl rfl ?_
      refine r_iinc (v := x4 + 1) ok209 32 rfl rfl rfl rfl ?_
      refine r_goto ok209 33 rfl rfl ?_
      exact h3

theorem K209 {Θ : Th} {d : Nat} {σ : Mem} {Q : Po} {x1 : Int32} (h : G Θ (d + 1) 209 0 [some (.ref 124), some (.int x1), none, none, none] [] σ Q) : Cm Θ (d + 1) 209 [.ref 124, .int x1] σ Q :=
  C_of_G okM209 (Nat.le_of_ble_eq_true rfl) rfl h

-- 210: LikeYearsModel.common(JJ)J
set_option maxRecDepth 100000 in
set_option maxHeartbeats 4000000 in
theorem B210_0 {Θ : Th} {d : Nat} {σ : Mem} {Q : Po} {x0 : Int64} {x2 : Int64} 
    (h : ((0 ≤ (lg_cmp x0 0) → G Θ d 210 17 [none, none, none, none, some (.long x0), none, some (.long x2), none, none, none] [] σ Q) ∧ (¬ 0 ≤ (lg_cmp x0 0) → G Θ d 210 17 [none, none, none, none, some (.long (-x0)), none, some (.long x2), none, none, none] [] σ Q))) :
    G Θ d 210 0 [some (.long x0), none, some (.long x2), none, none, none, none, none, none, none] [] σ Q := by
  refine r_lload_n ok210 0 rfl rfl rfl ?_
  refine r_lconst (v := 0) ok210 1 rfl rfl rfl ?_
  refine r_lcmp ok210 2 rfl rfl ?_
  refine r_if_ge ok210 3 rfl rfl (fun c1 => ?_) (fun c1 => ?_)
  · have h1 := h.1 c1
    refine r_lload_n ok210 7 rfl rfl rfl ?_
    refine r_lstore ok210 8 rfl rfl ?_
    refine r_lload_n ok210 9 rfl rfl rfl ?_
    refine r_lstore ok210 10 rfl rfl ?_
    exact G.weak (L' := [none, none, none, none, some (.long x0), none, some (.long x2), none, none, none]) ⟨rfl, ⟨rfl, trivial⟩⟩ h1
  · have h1 := h.2 c1
    refine r_lload_n ok210 4 rfl rfl rfl ?_
    refine r_lneg ok210 5 rfl rfl ?_
    refine r_goto ok210 6 rfl rfl ?_
    refine r_lstore ok210 8 rfl rfl ?_
    refine r_lload_n ok210 9 rfl rfl rfl ?_
    refine r_lstore ok210 10 rfl rfl ?_
    exact G.weak (L' := [none, none, none, none, some (.long (-x0)), none, some (.long x2), none, none, none]) ⟨rfl, ⟨rfl, trivial⟩⟩ h1

set_option maxRecDepth 100000 in
set_option maxHeartbeats 4000000 in
theorem B210_17 {Θ : Th} {d : Nat} {σ : Mem} {Q : Po} {x4 : Int64} {x6 : Int64} 
    (h : (((lg_cmp x6 0) ≤ 0 → Q (some (.long x4)) σ) ∧ (¬ (lg_cmp x6 0) ≤ 0 → (¬ x6 = 0 ∧ G Θ d 210 17 [none, none, none, none, some (.long x6), none, some (.long (x4 - x4 / x6 * x6)), none, none, none] [] σ Q)))) :
    G Θ d 210 17 [none, none, none, none, some (.long x4), none, some (.long x6), none, none, none] [] σ Q := by
  refine r_lload ok210 11 rfl rfl rfl ?_
  refine r_lconst (v := 0) ok210 12 rfl rfl rfl ?_
  refine r_lcmp ok210 13 rfl rfl ?_
  refine r_if_le ok210 14 rfl rfl (fun c1 => ?_) (fun c1 => ?_)
  · have h1 := h.1 c1
    refine r_lload ok210 24 rfl rfl rfl ?_
    exact r_lret ok210 25 rfl rfl rfl h1
  · have h1 := h.2 c1
    refine r_lload ok210 15 rfl rfl rfl ?_
    refine r_lload ok210 16 rfl rfl rfl ?_
    obtain ⟨c2, h2⟩ := h1
    refine r_lrem ok210 17 rfl rfl c2 ?_
    refine r_lstore ok210 18 rfl rfl ?_
    refine r_lload ok210 19 rfl rfl rfl ?_
    refine r_lstore ok210 20 rfl rfl ?_
    refine r_lload ok210 21 rfl rfl rfl ?_
    refine r_lstore ok210 22 rfl rfl ?_
    refine r_goto ok210 23 rfl rfl ?_
    exact G.weak (L' := [none, none, none, none, some (.long x6), none, some (.long (x4 - x4 / x6 * x6)), none, none, none]) ⟨rfl, ⟨rfl, trivial⟩⟩ h2

theorem K210 {Θ : Th} {d : Nat} {σ : Mem} {Q : Po} {x0 : Int64} {x2 : Int64} (h : G Θ d 210 0 [some (.long x0), none, some (.long x2), none, none, none, none, none, none, none] [] σ Q) : Cm Θ d 210 [.long x0, .long x2] σ Q :=
  C_of_G okM210 (Nat.le_of_ble_eq_true rfl) rfl h

-- 211: LikeYearsModel.put(JJ)V
set_option maxRecDepth 100000 in
set_option maxHeartbeats 4000000 in
theorem B211_0 {Θ : Th} {d : Nat} {σ : Mem} {Q : Po} {x1 : Int64} {x3 : Int64} 
    (h : Cl Θ d 210 [.long x1, .long x3] σ (fun v1 σ1 => (¬ v1 = 0 ∧ (¬ v1 = 0 ∧ Q none (sL (sL σ1 124 44 (x1 / v1)) 124 45 (x3 / v1)))))) :
    G Θ (d + 1) 211 0 [some (.ref 124), some (.long x1), none, some (.long x3), none, none, none] [] σ Q := by
  refine r_lload_n ok211 0 rfl rfl rfl ?_
  refine r_lload_n ok211 1 rfl rfl rfl ?_
  refine r_invSl (as := [.long x1, .long x3]) (S := []) ok211 2 rfl rfl mf210 rfl (Nat.le_of_ble_eq_true rfl) rfl h (fun v1 σ1 h1 => ?_)
  refine r_lstore ok211 3 rfl rfl ?_
  refine r_aload_n ok211 4 rfl rfl rfl ?_
  refine r_lload_n ok211 5 rfl rfl rfl ?_
  refine r_lload ok211 6 rfl rfl rfl ?_
  obtain ⟨c2, h2⟩ := h1
  refine r_ldiv ok211 7 rfl rfl c2 ?_
  refine r_putL ok211 8 rfl rfl rfl rfl ?_
  refine r_aload_n ok211 9 rfl rfl rfl ?_
  refine r_lload_n ok211 10 rfl rfl rfl ?_
  refine r_lload ok211 11 rfl rfl rfl ?_
  obtain ⟨c3, h3⟩ := h2
  refine r_ldiv ok211 12 rfl rfl c3 ?_
  refine r_putL ok211 13 rfl rfl rfl rfl ?_
  exact r_ret ok211 14 rfl rfl rfl h3

theorem K211 {Θ : Th} {d : Nat} {σ : Mem} {Q : Po} {x1 : Int64} {x3 : Int64} (h : G Θ (d + 1) 211 0 [some (.ref 124), some (.long x1), none, some (.long x3), none, none, none] [] σ Q) : Cm Θ (d + 1) 211 [.ref 124, .long x1, .long x3] σ Q :=
  C_of_G okM211 (Nat.le_of_ble_eq_true rfl) rfl h

-- 212: LikeYearsModel.add(JJ)V
set_option maxRecDepth 100000 in
set_option maxHeartbeats 4000000 in
theorem B212_0 {Θ : Th} {d : Nat} {σ : Mem} {Q : Po} {x1 : Int64} {x3 : Int64} 
    (h : Cl Θ d 210 [.long (σ.2.1 124 45), .long x3] σ (fun v1 σ1 => (¬ v1 = 0 ∧ (¬ v1 = 0 ∧ (¬ v1 = 0 ∧ Cv Θ d 211 [.ref 124, .long (((σ1.2.1 124 44) * (x3 / v1)) + (x1 * ((σ1.2.1 124 45) / v1))), .long (((σ1.2.1 124 45) / v1) * x3)] σ1 (fun σ5 => Q none σ5)))))) :
    G Θ (d + 1) 212 0 [some (.ref 124), some (.long x1), none, some (.long x3), none, none, none] [] σ Q := by
  refine r_aload_n ok212 0 rfl rfl rfl ?_
  refine r_getL ok212 1 rfl rfl rfl rfl ?_
  refine r_lload_n ok212 2 rfl rfl rfl ?_
  refine r_invSl (as := [.long (σ.2.1 124 45), .long x3]) (S := []) ok212 3 rfl rfl mf210 rfl (Nat.le_of_ble_eq_true rfl) rfl h (fun v1 σ1 h1 => ?_)
  refine r_lstore ok212 4 rfl rfl ?_
  refine r_aload_n ok212 5 rfl rfl rfl ?_
  refine r_aload_n ok212 6 rfl rfl rfl ?_
  refine r_getL ok212 7 rfl rfl rfl rfl ?_
  refine r_lload_n ok212 8 rfl rfl rfl ?_
  refine r_lload ok212 9 rfl rfl rfl ?_
  obtain ⟨c2, h2⟩ := h1
  refine r_ldiv ok212 10 rfl rfl c2 ?_
  refine r_lmul ok212 11 rfl rfl ?_
  refine r_lload_n ok212 12 rfl rfl rfl ?_
  refine r_aload_n ok212 13 rfl rfl rfl ?_
  refine r_getL ok212 14 rfl rfl rfl rfl ?_
  refine r_lload ok212 15 rfl rfl rfl ?_
  obtain ⟨c3, h3⟩ := h2
  refine r_ldiv ok212 16 rfl rfl c3 ?_
  refine r_lmul ok212 17 rfl rfl ?_
  refine r_ladd ok212 18 rfl rfl ?_
  refine r_aload_n ok212 19 rfl rfl rfl ?_
  refine r_getL ok212 20 rfl rfl rfl rfl ?_
  refine r_lload ok212 21 rfl rfl rfl ?_
  obtain ⟨c4, h4⟩ := h3
  refine r_ldiv ok212 22 rfl rfl c4 ?_
  refine r_lload_n ok212 23 rfl rfl rfl ?_
  refine r_lmul ok212 24 rfl rfl ?_
  refine r_invVv (as := [.long (((σ1.2.1 124 44) * (x3 / v1)) + (x1 * ((σ1.2.1 124 45) / v1))), .long (((σ1.2.1 124 45) / v1) * x3)]) (S := []) ok212 25 rfl rfl mf211 rfl rfl (Nat.le_of_ble_eq_true rfl) rfl h4 (fun σ5 h5 => ?_)
  exact r_ret ok212 26 rfl rfl rfl h5

theorem K212 {Θ : Th} {d : Nat} {σ : Mem} {Q : Po} {x1 : Int64} {x3 : Int64} (h : G Θ (d + 1) 212 0 [some (.ref 124), some (.long x1), none, some (.long x3), none, none, none] [] σ Q) : Cm Θ (d + 1) 212 [.ref 124, .long x1, .long x3] σ Q :=
  C_of_G okM212 (Nat.le_of_ble_eq_true rfl) rfl h

-- 213: LikeYearsModel.isPart(I)Z
set_option maxRecDepth 100000 in
set_option maxHeartbeats 4000000 in
theorem B213_0 {Θ : Th} {d : Nat} {σ : Mem} {Q : Po} {x0 : Int32} 
    (h : ((x0 = 0 → Q (some (.int 1)) σ) ∧ (¬ x0 = 0 → ((¬ x0 = 1 → Q (some (.int 0)) σ) ∧ (x0 = 1 → Q (some (.int 1)) σ))))) :
    G Θ d 213 0 [some (.int x0)] [] σ Q := by
  refine r_iload_n ok213 0 rfl rfl rfl ?_
  refine r_if_eq ok213 1 rfl rfl (fun c1 => ?_) (fun c1 => ?_)
  · have h1 := h.1 c1
    refine r_iconst (v := 1) ok213 5 rfl rfl rfl ?_
    refine r_goto ok213 6 rfl rfl ?_
    exact r_zret ok213 8 rfl rfl rfl (Or.inr rfl) h1
  · have h1 := h.2 c1
    refine r_iload_n ok213 2 rfl rfl rfl ?_
    refine r_iconst (v := 1) ok213 3 rfl rfl rfl ?_
    refine r_icmp_ne ok213 4 rfl rfl (fun c2 => ?_) (fun c2 => ?_)
    · have h2 := h1.1 c2
      refine r_iconst (v := 0) ok213 7 rfl rfl rfl ?_
      exact r_zret ok213 8 rfl rfl rfl (Or.inl rfl) h2
    · have h2 := h1.2 c2
      refine r_iconst (v := 1) ok213 5 rfl rfl rfl ?_
      refine r_goto ok213 6 rfl rfl ?_
      exact r_zret ok213 8 rfl rfl rfl (Or.inr rfl) h2

theorem K213 {Θ : Th} {d : Nat} {σ : Mem} {Q : Po} {x0 : Int32} (h : G Θ d 213 0 [some (.int x0)] [] σ Q) : Cm Θ d 213 [.int x0] σ Q :=
  C_of_G okM213 (Nat.le_of_ble_eq_true rfl) rfl h

-- 214: LikeYearsModel.partOf(I)J
set_option maxRecDepth 100000 in
set_option maxHeartbeats 4000000 in
theorem B214_0 {Θ : Th} {d : Nat} {σ : Mem} {Q : Po} {x1 : Int32} 
    (h : ((¬ x1 = 0 → Q (some (.long (σ.2.1 124 45))) σ) ∧ (x1 = 0 → Q (some (.long (σ.2.1 124 44))) σ))) :
    G Θ d 214 0 [some (.ref 124), some (.int x1)] [] σ Q := by
  refine r_iload_n ok214 0 rfl rfl rfl ?_
  refine r_if_ne ok214 1 rfl rfl (fun c1 => ?_) (fun c1 => ?_)
  · have h1 := h.1 c1
    refine r_aload_n ok214 5 rfl rfl rfl ?_
    refine r_getL ok214 6 rfl rfl rfl rfl ?_
    exact r_lret ok214 7 rfl rfl rfl h1
  · have h1 := h.2 c1
    refine r_aload_n ok214 2 rfl rfl rfl ?_
    refine r_getL ok214 3 rfl rfl rfl rfl ?_
    refine r_goto ok214 4 rfl rfl ?_
    exact r_lret ok214 7 rfl rfl rfl h1

theorem K214 {Θ : Th} {d : Nat} {σ : Mem} {Q : Po} {x1 : Int32} (h : G Θ d 214 0 [some (.ref 124), some (.int x1)] [] σ Q) : Cm Θ d 214 [.ref 124, .int x1] σ Q :=
  C_of_G okM214 (Nat.le_of_ble_eq_true rfl) rfl h

-- 215: LikeYearsModel.lowest(I)I
set_option maxRecDepth 100000 in
set_option maxHeartbeats 4000000 in
theorem B215_0 {Θ : Th} {d : Nat} {σ : Mem} {Q : Po} {x0 : Int32} 
    (h : G Θ d 215 2 [some (.int x0), some (.int 0)] [] σ Q) :
    G Θ d 215 0 [some (.int x0), none] [] σ Q := by
  refine r_iconst (v := 0) ok215 0 rfl rfl rfl ?_
  refine r_istore_n ok215 1 rfl rfl ?_
  exact h

set_option maxRecDepth 100000 in
set_option maxHeartbeats 4000000 in
theorem B215_2 {Θ : Th} {d : Nat} {σ : Mem} {Q : Po} {x0 : Int32} {x1 : Int32} 
    (h : ((¬ ((x0 >>> (x1 &&& 31)) &&& 1) = 0 → Q (some (.int x1)) σ) ∧ (((x0 >>> (x1 &&& 31)) &&& 1) = 0 → G Θ d 215 2 [some (.int x0), some (.int (x1 + 1))] [] σ Q))) :
    G Θ d 215 2 [some (.int x0), some (.int x1)] [] σ Q := by
  refine r_iload_n ok215 2 rfl rfl rfl ?_
  refine r_iload_n ok215 3 rfl rfl rfl ?_
  refine r_ishr ok215 4 rfl rfl ?_
  refine r_iconst (v := 1) ok215 5 rfl rfl rfl ?_
  refine r_iand ok215 6 rfl rfl ?_
  refine r_if_ne ok215 7 rfl rfl (fun c1 => ?_) (fun c1 => ?_)
  · have h1 := h.1 c1
    refine r_iload_n ok215 10 rfl rfl rfl ?_
    exact r_iret ok215 11 rfl rfl rfl h1
  · have h1 := h.2 c1
    refine r_iinc (v := x1 + 1) ok215 8 rfl rfl rfl rfl ?_
    refine r_goto ok215 9 rfl rfl ?_
    exact h1

theorem K215 {Θ : Th} {d : Nat} {σ : Mem} {Q : Po} {x0 : Int32} (h : G Θ d 215 0 [some (.int x0), none] [] σ Q) : Cm Θ d 215 [.int x0] σ Q :=
  C_of_G okM215 (Nat.le_of_ble_eq_true rfl) rfl h

-- 216: LikeYearsModel.layOut()V
set_option maxRecDepth 100000 in
set_option maxHeartbeats 4000000 in
theorem B216_0 {Θ : Th} {d : Nat} {σ : Mem} {Q : Po} 
    (h : G Θ (d + 1) 216 23 [some (.ref 124), some (.int 1), none, none] [] (sI (sI (sI σ 151 ((0 : Int32).toNatClampNeg) 0) 152 ((0 : Int32).toNatClampNeg) 0) 153 ((0 : Int32).toNatClampNeg) 0) Q) :
    G Θ (d + 1) 216 0 [some (.ref 124), none, none, none] [] σ Q := by
  refine r_aload_n ok216 0 rfl rfl rfl ?_
  refine r_getF ok216 1 rfl rfl rfl rfl ?_
  refine r_iconst (v := 0) ok216 2 rfl rfl rfl ?_
  refine r_iconst (v := 0) ok216 3 rfl rfl rfl ?_
  refine r_iast ok216 4 rfl rfl rfl (by unfold vp_in; decide) ?_
  refine r_aload_n ok216 5 rfl rfl rfl ?_
  refine r_getF ok216 6 rfl rfl rfl rfl ?_
  refine r_iconst (v := 0) ok216 7 rfl rfl rfl ?_
  refine r_iconst (v := 0) ok216 8 rfl rfl rfl ?_
  refine r_iast ok216 9 rfl rfl rfl (by unfold vp_in; decide) ?_
  refine r_aload_n ok216 10 rfl rfl rfl ?_
  refine r_getF ok216 11 rfl rfl rfl rfl ?_
  refine r_iconst (v := 0) ok216 12 rfl rfl rfl ?_
  refine r_iconst (v := 0) ok216 13 rfl rfl rfl ?_
  refine r_iast ok216 14 rfl rfl rfl (by unfold vp_in; decide) ?_
  refine r_iconst (v := 1) ok216 15 rfl rfl rfl ?_
  refine r_istore_n ok216 16 rfl rfl ?_
  exact h

set_option maxRecDepth 100000 in
set_option maxHeartbeats 4000000 in
theorem B216_23 {Θ : Th} {d : Nat} {σ : Mem} {Q : Po} {x1 : Int32} 
    (h : ((((1 : Int32) <<< ((σ.1 124 38) &&& 31)) ≤ x1 → Q none σ) ∧ (¬ ((1 : Int32) <<< ((σ.1 124 38) &&& 31)) ≤ x1 → Ci Θ d 215 [.int x1] σ (fun v2 σ2 => (vp_in (x1 &&& (x1 - 1)) 65536 ∧ (vp_in v2 16 ∧ (vp_in x1 65536 ∧ (vp_in (x1 &&& (x1 - 1)) 65536 ∧ (vp_in v2 16 ∧ (vp_in x1 65536 ∧ (vp_in (x1 &&& (x1 - 1)) 65536 ∧ (vp_in v2 16 ∧ (vp_in v2 16 ∧ (vp_in x1 65536 ∧ G Θ (d + 1) 216 23 [some (.ref 124), some (.int (x1 + 1)), none, none] [] (sI (sI (sI σ2 151 (x1.toNatClampNeg) ((σ2.1 151 (x1 &&& (x1 - 1)).toNatClampNeg) ||| (σ2.1 149 v2.toNatClampNeg))) 152 (x1.toNatClampNeg) (((sI σ2 151 (x1.toNatClampNeg) ((σ2.1 151 (x1 &&& (x1 - 1)).toNatClampNeg) ||| (σ2.1 149 v2.toNatClampNeg))).1 152 (x1 &&& (x1 - 1)).toNatClampNeg) + ((sI σ2 151 (x1.toNatClampNeg) ((σ2.1 151 (x1 &&& (x1 - 1)).toNatClampNeg) ||| (σ2.1 149 v2.toNatClampNeg))).1 144 v2.toNatClampNeg))) 153 (x1.toNatClampNeg) (((sI (sI σ2 151 (x1.toNatClampNeg) ((σ2.1 151 (x1 &&& (x1 - 1)).toNatClampNeg) ||| (σ2.1 149 v2.toNatClampNeg))) 152 (x1.toNatClampNeg) (((sI σ2 151 (x1.toNatClampNeg) ((σ2.1 151 (x1 &&& (x1 - 1)).toNatClampNeg) ||| (σ2.1 149 v2.toNatClampNeg))).1 152 (x1 &&& (x1 - 1)).toNatClampNeg) + ((sI σ2 151 (x1.toNatClampNeg) ((σ2.1 151 (x1 &&& (x1 - 1)).toNatClampNeg) ||| (σ2.1 149 v2.toNatClampNeg))).1 144 v2.toNatClampNeg))).1 153 (x1 &&& (x1 - 1)).toNatClampNeg) + (((sI (sI σ2 151 (x1.toNatClampNeg) ((σ2.1 151 (x1 &&& (x1 - 1)).toNatClampNeg) ||| (σ2.1 149 v2.toNatClampNeg))) 152 (x1.toNatClampNeg) (((sI σ2 151 (x1.toNatClampNeg) ((σ2.1 151 (x1 &&& (x1 - 1)).toNatClampNeg) ||| (σ2.1 149 v2.toNatClampNeg))).1 152 (x1 &&& (x1 - 1)).toNatClampNeg) + ((sI σ2 151 (x1.toNatClampNeg) ((σ2.1 151 (x1 &&& (x1 - 1)).toNatClampNeg) ||| (σ2.1 149 v2.toNatClampNeg))).1 144 v2.toNatClampNeg))).1 144 v2.toNatClampNeg) * ((sI (sI σ2 151 (x1.toNatClampNeg) ((σ2.1 151 (x1 &&& (x1 - 1)).toNatClampNeg) ||| (σ2.1 149 v2.toNatClampNeg))) 152 (x1.toNatClampNeg) (((sI σ2 151 (x1.toNatClampNeg) ((σ2.1 151 (x1 &&& (x1 - 1)).toNatClampNeg) ||| (σ2.1 149 v2.toNatClampNeg))).1 152 (x1 &&& (x1 - 1)).toNatClampNeg) + ((sI σ2 151 (x1.toNatClampNeg) ((σ2.1 151 (x1 &&& (x1 - 1)).toNatClampNeg) ||| (σ2.1 149 v2.toNatClampNeg))).1 144 v2.toNatClampNeg))).1 143 v2.toNatClampNeg)))) Q)))))))))))))) :
    G Θ (d + 1) 216 23 [some (.ref 124), some (.int x1), none, none] [] σ Q := by
  refine r_iload_n ok216 17 rfl rfl rfl ?_
  refine r_iconst (v := 1) ok216 18 rfl rfl rfl ?_
  refine r_aload_n ok216 19 rfl rfl rfl ?_
  refine r_getI ok216 20 rfl rfl rfl rfl ?_
  refine r_ishl ok216 21 rfl rfl ?_
  refine r_icmp_ge ok216 22 rfl rfl (fun c1 => ?_) (fun c1 => ?_)
  · have h1 := h.1 c1
    exact r_ret ok216 78 rfl rfl rfl h1
  · have h1 := h.2 c1
    refine r_iload_n ok216 23 rfl rfl rfl ?_
    refine r_invSi (as := [.int x1]) (S := []) ok216 24 rfl rfl mf215 rfl (Nat.le_of_ble_eq_true rfl) rfl h1 (fun v2 σ2 h2 => ?_)
    refine r_istore_n ok216 25 rfl rfl ?_
    refine r_iload_n ok216 26 rfl rfl rfl ?_
    refine r_iload_n ok216 27 rfl rfl rfl ?_
    refine r_iconst (v := 1) ok216 28 rfl rfl rfl ?_
    refine r_isub ok216 29 rfl rfl ?_
    refine r_iand ok216 30 rfl rfl ?_
    refine r_istore_n ok216 31 rfl rfl ?_
    refine r_aload_n ok216 32 rfl rfl rfl ?_
    refine r_getF ok216 33 rfl rfl rfl rfl ?_
    refine r_iload_n ok216 34 rfl rfl rfl ?_
    refine r_aload_n ok216 35 rfl rfl rfl ?_
    refine r_getF ok216 36 rfl rfl rfl rfl ?_
    refine r_iload_n ok216 37 rfl rfl rfl ?_
    obtain ⟨c3, h3⟩ := h2
    refine r_iald ok216 38 rfl rfl rfl c3 ?_
    refine r_aload_n ok216 39 rfl rfl rfl ?_
    refine r_getF ok216 40 rfl rfl rfl rfl ?_
    refine r_iload_n ok216 41 rfl rfl rfl ?_
    obtain ⟨c4, h4⟩ := h3
    refine r_iald ok216 42 rfl rfl rfl c4 ?_
    refine r_ior ok216 43 rfl rfl ?_
    obtain ⟨c5, h5⟩ := h4
    refine r_iast ok216 44 rfl rfl rfl c5 ?_
    refine r_aload_n ok216 45 rfl rfl rfl ?_
    refine r_getF ok216 46 rfl rfl rfl rfl ?_
    refine r_iload_n ok216 47 rfl rfl rfl ?_
    refine r_aload_n ok216 48 rfl rfl rfl ?_
    refine r_getF ok216 49 rfl rfl rfl rfl ?_
    refine r_iload_n ok216 50 rfl rfl rfl ?_
    obtain ⟨c6, h6⟩ := h5
    refine r_iald ok216 51 rfl rfl rfl c6 ?_
    refine r_aload_n ok216 52 rfl rfl rfl ?_
    refine r_getF ok216 53 rfl rfl rfl rfl ?_
    refine r_iload_n ok216 54 rfl rfl rfl ?_
    obtain ⟨c7, h7⟩ := h6
    refine r_iald ok216 55 rfl rfl rfl c7 ?_
    refine r_iadd ok216 56 rfl rfl ?_
    obtain ⟨c8, h8⟩ := h7
    refine r_iast ok216 57 rfl rfl rfl c8 ?_
    refine r_aload_n ok216 58 rfl rfl rfl ?_
    refine r_getF ok216 59 rfl rfl rfl rfl ?_
    refine r_iload_n ok216 60 rfl rfl rfl ?_
    refine r_aload_n ok216 61 rfl rfl rfl ?_
    refine r_getF ok216 62 rfl rfl rfl rfl ?_
    refine r_iload_n ok216 63 rfl rfl rfl ?_
    obtain ⟨c9, h9⟩ := h8
    refine r_iald ok216 64 rfl rfl rfl c9 ?_
    refine r_aload_n ok216 65 rfl rfl rfl ?_
    refine r_getF ok216 66 rfl rfl rfl rfl ?_
    refine r_iload_n ok216 67 rfl rfl rfl ?_
    obtain ⟨c10, h10⟩ := h9
    refine r_iald ok216 68 rfl rfl rfl c10 ?_
    refine r_aload_n ok216 69 rfl rfl rfl ?_
    refine r_getF ok216 70 rfl rfl rfl rfl ?_
    refine r_iload_n ok216 71 rfl rfl rfl ?_
    obtain ⟨c11, h11⟩ := h10
    refine r_iald ok216 72 rfl rfl rfl c11 ?_
    refine r_imul ok216 73 rfl rfl ?_
    refine r_iadd ok216 74 rfl rfl ?_
    obtain ⟨c12, h12⟩ := h11
    refine r_iast ok216 75 rfl rfl rfl c12 ?_
    refine r_iinc (v := x1 + 1) ok216 76 rfl rfl rfl rfl ?_
    refine r_goto ok216 77 rfl rfl ?_
    exact G.weak (L' := [some (.ref 124), some (.int (x1 + 1)), none, none]) ⟨rfl, ⟨rfl, trivial⟩⟩ h12

theorem K216 {Θ : Th} {d : Nat} {σ : Mem} {Q : Po} (h : G Θ (d + 1) 216 0 [some (.ref 124), none, none, none] [] σ Q) : Cm Θ (d + 1) 216 [.ref 124] σ Q :=
  C_of_G okM216 (Nat.le_of_ble_eq_true rfl) rfl h

-- 217: LikeYearsModel.square(I)V
set_option maxRecDepth 100000 in
set_option maxHeartbeats 4000000 in
theorem B217_0 {Θ : Th} {d : Nat} {σ : Mem} {Q : Po} {x1 : Int32} 
    (h : Cv Θ d 216 [.ref 124] σ (fun σ1 => Cv Θ d 211 [.ref 124, .long 0, .long 1] σ1 (fun σ2 => G Θ (d + 1) 217 12 [some (.ref 124), none, some (.int x1), none, none, none, none, none, none] [] σ2 Q))) :
    G Θ (d + 1) 217 0 [some (.ref 124), some (.int x1), none, none, none, none, none, none, none] [] σ Q := by
  refine r_aload_n ok217 0 rfl rfl rfl ?_
  refine r_invVv (as := []) (S := []) ok217 1 rfl rfl mf216 rfl rfl (Nat.le_of_ble_eq_true rfl) rfl h (fun σ1 h1 => ?_)
  refine r_aload_n ok217 2 rfl rfl rfl ?_
  refine r_lconst (v := 0) ok217 3 rfl rfl rfl ?_
  refine r_lconst (v := 1) ok217 4 rfl rfl rfl ?_
  refine r_invVv (as := [.long 0, .long 1]) (S := []) ok217 5 rfl rfl mf211 rfl rfl (Nat.le_of_ble_eq_true rfl) rfl h1 (fun σ2 h2 => ?_)
  refine r_iload_n ok217 6 rfl rfl rfl ?_
  refine r_istore_n ok217 7 rfl rfl ?_
  exact G.weak (L' := [some (.ref 124), none, some (.int x1), none, none, none, none, none, none]) ⟨rfl, ⟨rfl, trivial⟩⟩ h2

set_option maxRecDepth 100000 in
set_option maxHeartbeats 4000000 in
theorem B217_12 {Θ : Th} {d : Nat} {σ : Mem} {Q : Po} {x2 : Int32} 
    (h : ((x2 = 0 → Q none σ) ∧ (¬ x2 = 0 → G Θ (d + 1) 217 21 [some (.ref 124), none, some (.int x2), some (.int 0), some (.int 1), none, none, none, none] [] σ Q))) :
    G Θ (d + 1) 217 12 [some (.ref 124), none, some (.int x2), none, none, none, none, none, none] [] σ Q := by
  refine r_iload_n ok217 8 rfl rfl rfl ?_
  refine r_if_eq ok217 9 rfl rfl (fun c1 => ?_) (fun c1 => ?_)
  · have h1 := h.1 c1
    exact r_ret ok217 85 rfl rfl rfl h1
  · have h1 := h.2 c1
    refine r_iconst (v := 0) ok217 10 rfl rfl rfl ?_
    refine r_istore_n ok217 11 rfl rfl ?_
    refine r_iconst (v := 1) ok217 12 rfl rfl rfl ?_
    refine r_istore ok217 13 rfl rfl ?_
    exact h1

set_option maxRecDepth 100000 in
set_option maxHeartbeats 4000000 in
theorem B217_21 {Θ : Th} {d : Nat} {σ : Mem} {Q : Po} {x2 : Int32} {x3 : Int32} {x4 : Int32} 
    (h : ((x2 < x4 → Cv Θ d 218 [.ref 124, .int x3] σ (fun σ2 => G Θ (d + 1) 217 12 [some (.ref 124), none, some (.int (x2 &&& (x3 ^^^ (-1)))), none, none, none, none, none, none] [] σ2 Q)) ∧ (¬ x2 < x4 → ((¬ (x4 &&& (x2 ^^^ (-1))) = 0 → G Θ (d + 1) 217 21 [some (.ref 124), none, some (.int x2), some (.int x3), some (.int (x4 + 1)), none, none, none, none] [] σ Q) ∧ ((x4 &&& (x2 ^^^ (-1))) = 0 → (vp_in x4 65536 ∧ ((((σ.1 151 x4.toNatClampNeg) &&& x2) = x4 → (vp_in x4 65536 ∧ (vp_in x3 65536 ∧ (vp_in x3 65536 ∧ (vp_in x4 65536 ∧ ((x3 = 0 → G Θ (d + 1) 217 21 [some (.ref 124), none, some (.int x2), some (.int x4), some (.int (x4 + 1)), none, none, none, none] [] σ Q) ∧ (¬ x3 = 0 → ((0 ≤ (lg_cmp (((σ.1 153 x4.toNatClampNeg).toInt64) * ((σ.1 152 x3.toNatClampNeg).toInt64)) (((σ.1 153 x3.toNatClampNeg).toInt64) * ((σ.1 152 x4.toNatClampNeg).toInt64))) → ((¬ (lg_cmp (((σ.1 153 x4.toNatClampNeg).toInt64) * ((σ.1 152 x3.toNatClampNeg).toInt64)) (((σ.1 153 x3.toNatClampNeg).toInt64) * ((σ.1 152 x4.toNatClampNeg).toInt64))) = 0 → G Θ (d + 1) 217 21 [some (.ref 124), none, some (.int x2), some (.int x3), some (.int (x4 + 1)), none, none, none, none] [] σ Q) ∧ ((lg_cmp (((σ.1 153 x4.toNatClampNeg).toInt64) * ((σ.1 152 x3.toNatClampNeg).toInt64)) (((σ.1 153 x3.toNatClampNeg).toInt64) * ((σ.1 152 x4.toNatClampNeg).toInt64))) = 0 → G Θ (d + 1) 217 21 [some (.ref 124), none, some (.int x2), some (.int (x3 ||| x4)), some (.int (x4 + 1)), none, none, none, none] [] σ Q))) ∧ (¬ 0 ≤ (lg_cmp (((σ.1 153 x4.toNatClampNeg).toInt64) * ((σ.1 152 x3.toNatClampNeg).toInt64)) (((σ.1 153 x3.toNatClampNeg).toInt64) * ((σ.1 152 x4.toNatClampNeg).toInt64))) → G Θ (d + 1) 217 21 [some (.ref 124), none, some (.int x2), some (.int x4), some (.int (x4 + 1)), none, none, none, none] [] σ Q))))))))) ∧ (¬ ((σ.1 151 x4.toNatClampNeg) &&& x2) = x4 → G Θ (d + 1) 217 21 [some (.ref 124), none, some (.int x2), some (.int x3), some (.int (x4 + 1)), none, none, none, none] [] σ Q)))))))) :
    G Θ (d + 1) 217 21 [some (.ref 124), none, some (.int x2), some (.int x3), some (.int x4), none, none, none, none] [] σ Q := by
  refine r_iload ok217 14 rfl rfl rfl ?_
  refine r_iload_n ok217 15 rfl rfl rfl ?_
  refine r_icmp_gt ok217 16 rfl rfl (fun c1 => ?_) (fun c1 => ?_)
  · have h1 := h.1 c1
    refine r_aload_n ok217 75 rfl rfl rfl ?_
    refine r_iload_n ok217 76 rfl rfl rfl ?_
    refine r_invVv (as := [.int x3]) (S := []) ok217 77 rfl rfl mf218 rfl rfl (Nat.le_of_ble_eq_true rfl) rfl h1 (fun σ2 h2 => ?_)
    refine r_iload_n ok217 78 rfl rfl rfl ?_
    refine r_iload_n ok217 79 rfl rfl rfl ?_
    refine r_iconst (v := (-1)) ok217 80 rfl rfl rfl ?_
    refine r_ixor ok217 81 rfl rfl ?_
    refine r_iand ok217 82 rfl rfl ?_
    refine r_istore_n ok217 83 rfl rfl ?_
    refine r_goto ok217 84 rfl rfl ?_
    exact G.weak (L' := [some (.ref 124), none, some (.int (x2 &&& (x3 ^^^ (-1)))), none, none, none, none, none, none]) ⟨rfl, ⟨rfl, trivial⟩⟩ h2
  · have h1 := h.2 c1
    refine r_iload ok217 17 rfl rfl rfl ?_
    refine r_iload_n ok217 18 rfl rfl rfl ?_
    refine r_iconst (v := (-1)) ok217 19 rfl rfl rfl ?_
    refine r_ixor ok217 20 rfl rfl ?_
    refine r_iand ok217 21 rfl rfl ?_
    refine r_if_ne ok217 22 rfl rfl (fun c3 => ?_) (fun c3 => ?_)
    · have h3 := h1.1 c3
      refine r_iinc (v := x4 + 1) ok217 73 rfl rfl rfl rfl ?_
      refine r_goto ok217 74 rfl rfl ?_
      exact h3
    · have h3 := h1.2 c3
      refine r_aload_n ok217 23 rfl rfl rfl ?_
      refine r_getF ok217 24 rfl rfl rfl rfl ?_
      refine r_iload ok217 25 rfl rfl rfl ?_
      obtain ⟨c4, h4⟩ := h3
      refine r_iald ok217 26 rfl rfl rfl c4 ?_
      refine r_iload_n ok217 27 rfl rfl rfl ?_
      refine r_iand ok217 28 rfl rfl ?_
      refine r_iload ok217 29 rfl rfl rfl ?_
      refine r_icmp_eq ok217 30 rfl rfl (fun c5 => ?_) (fun c5 => ?_)
      · have h5 := h4.1 c5
        refine r_aload_n ok217 32 rfl rfl rfl ?_
        refine r_getF ok217 33 rfl rfl rfl rfl ?_
        refine r_iload ok217 34 rfl rfl rfl ?_
        obtain ⟨c6, h6⟩ := h5
        refine r_iald ok217 35 rfl rfl rfl c6 ?_
        refine r_i2l ok217 36 rfl rfl ?_
        refine r_aload_n ok217 37 rfl rfl rfl ?_
        refine r_getF ok217 38 rfl rfl rfl rfl ?_
        refine r_iload_n ok217 39 rfl rfl rfl ?_
        obtain ⟨c7, h7⟩ := h6
        refine r_iald ok217 40 rfl rfl rfl c7 ?_
        refine r_i2l ok217 41 rfl rfl ?_
        refine r_lmul ok217 42 rfl rfl ?_
        refine r_lstore ok217 43 rfl rfl ?_
        refine r_aload_n ok217 44 rfl rfl rfl ?_
        refine r_getF ok217 45 rfl rfl rfl rfl ?_
        refine r_iload_n ok217 46 rfl rfl rfl ?_
        obtain ⟨c8, h8⟩ := h7
        refine r_iald ok217 47 rfl rfl rfl c8 ?_
        refine r_i2l ok217 48 rfl rfl ?_
        refine r_aload_n ok217 49 rfl rfl rfl ?_
        refine r_getF ok217 50 rfl rfl rfl rfl ?_
        refine r_iload ok217 51 rfl rfl rfl ?_
        obtain ⟨c9, h9⟩ := h8
        refine r_iald ok217 52 rfl rfl rfl c9 ?_
        refine r_i2l ok217 53 rfl rfl ?_
        refine r_lmul ok217 54 rfl rfl ?_
        refine r_lstore ok217 55 rfl rfl ?_
        refine r_iload_n ok217 56 rfl rfl rfl ?_
        refine r_if_eq ok217 57 rfl rfl (fun c10 => ?_) (fun c10 => ?_)
        · have h10 := h9.1 c10
          refine r_iload ok217 62 rfl rfl rfl ?_
          refine r_istore_n ok217 63 rfl rfl ?_
          refine r_goto ok217 64 rfl rfl ?_
          refine r_iinc (v := x4 + 1) ok217 73 rfl rfl rfl rfl ?_
          refine r_goto ok217 74 rfl rfl ?_
          exact G.weak (L' := [some (.ref 124), none, some (.int x2), some (.int x4), some (.int (x4 + 1)), none, none, none, none]) ⟨rfl, ⟨rfl, ⟨rfl, ⟨rfl, trivial⟩⟩⟩⟩ h10
        · have h10 := h9.2 c10
          refine r_lload ok217 58 rfl rfl rfl ?_
          refine r_lload ok217 59 rfl rfl rfl ?_
          refine r_lcmp ok217 60 rfl rfl ?_
          refine r_if_ge ok217 61 rfl rfl (fun c11 => ?_) (fun c11 => ?_)
          · have h11 := h10.1 c11
            refine r_lload ok217 65 rfl rfl rfl ?_
            refine r_lload ok217 66 rfl rfl rfl ?_
            refine r_lcmp ok217 67 rfl rfl ?_
            refine r_if_ne ok217 68 rfl rfl (fun c12 => ?_) (fun c12 => ?_)
            · have h12 := h11.1 c12
              refine r_iinc (v := x4 + 1) ok217 73 rfl rfl rfl rfl ?_
              refine r_goto ok217 74 rfl rfl ?_
              exact G.weak (L' := [some (.ref 124), none, some (.int x2), some (.int x3), some (.int (x4 + 1)), none, none, none, none]) ⟨rfl, ⟨rfl, ⟨rfl, ⟨rfl, trivial⟩⟩⟩⟩ h12
            · have h12 := h11.2 c12
              refine r_iload_n ok217 69 rfl rfl rfl ?_
              refine r_iload ok217 70 rfl rfl rfl ?_
              refine r_ior ok217 71 rfl rfl ?_
              refine r_istore_n ok217 72 rfl rfl ?_
              refine r_iinc (v := x4 + 1) ok217 73 rfl rfl rfl rfl ?_
              refine r_goto ok217 74 rfl rfl ?_
              exact G.weak (L' := [some (.ref 124), none, some (.int x2), some (.int (x3 ||| x4)), some (.int (x4 + 1)), none, none, none, none]) ⟨rfl, ⟨rfl, ⟨rfl, ⟨rfl, trivial⟩⟩⟩⟩ h12
          · have h11 := h10.2 c11
            refine r_iload ok217 62 rfl rfl rfl ?_
            refine r_istore_n ok217 63 rfl rfl ?_
            refine r_goto ok217 64 rfl rfl ?_
            refine r_iinc (v := x4 + 1) ok217 73 rfl rfl rfl rfl ?_
            refine r_goto ok217 74 rfl rfl ?_
            exact G.weak (L' := [some (.ref 124), none, some (.int x2), some (.int x4), some (.int (x4 + 1)), none, none, none, none]) ⟨rfl, ⟨rfl, ⟨rfl, ⟨rfl, trivial⟩⟩⟩⟩ h11
      · have h5 := h4.2 c5
        refine r_goto ok217 31 rfl rfl ?_
        refine r_iinc (v := x4 + 1) ok217 73 rfl rfl rfl rfl ?_
        refine r_goto ok217 74 rfl rfl ?_
        exact h5

theorem K217 {Θ : Th} {d : Nat} {σ : Mem} {Q : Po} {x1 : Int32} (h : G Θ (d + 1) 217 0 [some (.ref 124), some (.int x1), none, none, none, none, none, none, none] [] σ Q) : Cm Θ (d + 1) 217 [.ref 124, .int x1] σ Q :=
  C_of_G okM217 (Nat.le_of_ble_eq_true rfl) rfl h

-- 218: LikeYearsModel.takeOff(I)V
set_option maxRecDepth 100000 in
set_option maxHeartbeats 4000000 in
theorem B218_0 {Θ : Th} {d : Nat} {σ : Mem} {Q : Po} {x1 : Int32} 
    (h : (vp_in x1 65536 ∧ (vp_in x1 65536 ∧ Cl Θ d 210 [.long ((σ.1 153 x1.toNatClampNeg).toInt64), .long ((σ.1 152 x1.toNatClampNeg).toInt64)] σ (fun v3 σ3 => G Θ (d + 1) 218 24 [some (.ref 124), some (.int x1), some (.long 0), none, some (.long v3), none, some (.int 0)] [] σ3 Q)))) :
    G Θ (d + 1) 218 0 [some (.ref 124), some (.int x1), none, none, none, none, none] [] σ Q := by
  refine r_lconst (v := 0) ok218 0 rfl rfl rfl ?_
  refine r_lstore_n ok218 1 rfl rfl ?_
  refine r_aload_n ok218 2 rfl rfl rfl ?_
  refine r_getF ok218 3 rfl rfl rfl rfl ?_
  refine r_iload_n ok218 4 rfl rfl rfl ?_
  obtain ⟨c1, h1⟩ := h
  refine r_iald ok218 5 rfl rfl rfl c1 ?_
  refine r_i2l ok218 6 rfl rfl ?_
  refine r_aload_n ok218 7 rfl rfl rfl ?_
  refine r_getF ok218 8 rfl rfl rfl rfl ?_
  refine r_iload_n ok218 9 rfl rfl rfl ?_
  obtain ⟨c2, h2⟩ := h1
  refine r_iald ok218 10 rfl rfl rfl c2 ?_
  refine r_i2l ok218 11 rfl rfl ?_
  refine r_invSl (as := [.long ((σ.1 153 x1.toNatClampNeg).toInt64), .long ((σ.1 152 x1.toNatClampNeg).toInt64)]) (S := []) ok218 12 rfl rfl mf210 rfl (Nat.le_of_ble_eq_true rfl) rfl h2 (fun v3 σ3 h3 => ?_)
  refine r_lstore ok218 13 rfl rfl ?_
  refine r_iconst (v := 0) ok218 14 rfl rfl rfl ?_
  refine r_istore ok218 15 rfl rfl ?_
  exact h3

set_option maxRecDepth 100000 in
set_option maxHeartbeats 4000000 in
theorem B218_24 {Θ : Th} {d : Nat} {σ : Mem} {Q : Po} {x1 : Int32} {x2 : Int64} {x4 : Int64} {x6 : Int32} 
    (h : (((σ.1 124 38) ≤ x6 → (vp_in x1 65536 ∧ (vp_in x1 65536 ∧ (vp_in x1 65536 ∧ (vp_in x1 65536 ∧ Cv Θ d 212 [.ref 124, .long ((x2 * ((σ.1 152 x1.toNatClampNeg).toInt64)) - (((σ.1 153 x1.toNatClampNeg).toInt64) * ((σ.1 153 x1.toNatClampNeg).toInt64))), .long ((σ.1 152 x1.toNatClampNeg).toInt64)] σ (fun σ6 => Q none σ6)))))) ∧ (¬ (σ.1 124 38) ≤ x6 → ((¬ ((x1 >>> (x6 &&& 31)) &&& 1) = 0 → (vp_in x6 16 ∧ (vp_in x6 16 ∧ (vp_in x6 16 ∧ (vp_in x1 65536 ∧ (¬ x4 = 0 ∧ (vp_in x6 16 ∧ (vp_in x1 65536 ∧ (¬ x4 = 0 ∧ (vp_in x6 16 ∧ G Θ (d + 1) 218 24 [some (.ref 124), some (.int x1), some (.long (x2 + ((((σ.1 144 x6.toNatClampNeg).toInt64) * ((σ.1 143 x6.toNatClampNeg).toInt64)) * ((σ.1 143 x6.toNatClampNeg).toInt64)))), none, some (.long x4), none, some (.int (x6 + 1))] [] (sL (sL σ 154 (x6.toNatClampNeg) (((σ.1 153 x1.toNatClampNeg).toInt64) / x4)) 155 (x6.toNatClampNeg) ((((sL σ 154 (x6.toNatClampNeg) (((σ.1 153 x1.toNatClampNeg).toInt64) / x4)).1 152 x1.toNatClampNeg).toInt64) / x4)) Q)))))))))) ∧ (((x1 >>> (x6 &&& 31)) &&& 1) = 0 → G Θ (d + 1) 218 24 [some (.ref 124), some (.int x1), some (.long x2), none, some (.long x4), none, some (.int (x6 + 1))] [] σ Q))))) :
    G Θ (d + 1) 218 24 [some (.ref 124), some (.int x1), some (.long x2), none, some (.long x4), none, some (.int x6)] [] σ Q := by
  refine r_iload ok218 16 rfl rfl rfl ?_
  refine r_aload_n ok218 17 rfl rfl rfl ?_
  refine r_getI ok218 18 rfl rfl rfl rfl ?_
  refine r_icmp_ge ok218 19 rfl rfl (fun c1 => ?_) (fun c1 => ?_)
  · have h1 := h.1 c1
    refine r_aload_n ok218 71 rfl rfl rfl ?_
    refine r_lload_n ok218 72 rfl rfl rfl ?_
    refine r_aload_n ok218 73 rfl rfl rfl ?_
    refine r_getF ok218 74 rfl rfl rfl rfl ?_
    refine r_iload_n ok218 75 rfl rfl rfl ?_
    obtain ⟨c2, h2⟩ := h1
    refine r_iald ok218 76 rfl rfl rfl c2 ?_
    refine r_i2l ok218 77 rfl rfl ?_
    refine r_lmul ok218 78 rfl rfl ?_
    refine r_aload_n ok218 79 rfl rfl rfl ?_
    refine r_getF ok218 80 rfl rfl rfl rfl ?_
    refine r_iload_n ok218 81 rfl rfl rfl ?_
    obtain ⟨c3, h3⟩ := h2
    refine r_iald ok218 82 rfl rfl rfl c3 ?_
    refine r_i2l ok218 83 rfl rfl ?_
    refine r_aload_n ok218 84 rfl rfl rfl ?_
    refine r_getF ok218 85 rfl rfl rfl rfl ?_
    refine r_iload_n ok218 86 rfl rfl rfl ?_
    obtain ⟨c4, h4⟩ := h3
    refine r_iald ok218 87 rfl rfl rfl c4 ?_
    refine r_i2l ok218 88 rfl rfl ?_
    refine r_lmul ok218 89 rfl rfl ?_
    refine r_lsub ok218 90 rfl rfl ?_
    refine r_aload_n ok218 91 rfl rfl rfl ?_
    refine r_getF ok218 92 rfl rfl rfl rfl ?_
    refine r_iload_n ok218 93 rfl rfl rfl ?_
    obtain ⟨c5, h5⟩ := h4
    refine r_iald ok218 94 rfl rfl rfl c5 ?_
    refine r_i2l ok218 95 rfl rfl ?_
    refine r_invVv (as := [.long ((x2 * ((σ.1 152 x1.toNatClampNeg).toInt64)) - (((σ.1 153 x1.toNatClampNeg).toInt64) * ((σ.1 153 x1.toNatClampNeg).toInt64))), .long ((σ.1 152 x1.toNatClampNeg).toInt64)]) (S := []) ok218 96 rfl rfl mf212 rfl rfl (Nat.le_of_ble_eq_true rfl) rfl h5 (fun σ6 h6 => ?_)
    exact r_ret ok218 97 rfl rfl rfl h6
  · have h1 := h.2 c1
    refine r_iload_n ok218 20 rfl rfl rfl ?_
    refine r_iload ok218 21 rfl rfl rfl ?_
    refine r_ishr ok218 22 rfl rfl ?_
    refine r_iconst (v := 1) ok218 23 rfl rfl rfl ?_
    refine r_iand ok218 24 rfl rfl ?_
    refine r_if_ne ok218 25 rfl rfl (fun c7 => ?_) (fun c7 => ?_)
    · have h7 := h1.1 c7
      refine r_lload_n ok218 27 rfl rfl rfl ?_
      refine r_aload_n ok218 28 rfl rfl rfl ?_
      refine r_getF ok218 29 rfl rfl rfl rfl ?_
      refine r_iload ok218 30 rfl rfl rfl ?_
      obtain ⟨c8, h8⟩ := h7
      refine r_iald ok218 31 rfl rfl rfl c8 ?_
      refine r_i2l ok218 32 rfl rfl ?_
      refine r_aload_n ok218 33 rfl rfl rfl ?_
      refine r_getF ok218 34 rfl rfl rfl rfl ?_
      refine r_iload ok218 35 rfl rfl rfl ?_
      obtain ⟨c9, h9⟩ := h8
      refine r_iald ok218 36 rfl rfl rfl c9 ?_
      refine r_i2l ok218 37 rfl rfl ?_
      refine r_lmul ok218 38 rfl rfl ?_
      refine r_aload_n ok218 39 rfl rfl rfl ?_
      refine r_getF ok218 40 rfl rfl rfl rfl ?_
      refine r_iload ok218 41 rfl rfl rfl ?_
      obtain ⟨c10, h10⟩ := h9
      refine r_iald ok218 42 rfl rfl rfl c10 ?_
      refine r_i2l ok218 43 rfl rfl ?_
      refine r_lmul ok218 44 rfl rfl ?_
      refine r_ladd ok218 45 rfl rfl ?_
      refine r_lstore_n ok218 46 rfl rfl ?_
      refine r_aload_n ok218 47 rfl rfl rfl ?_
      refine r_getF ok218 48 rfl rfl rfl rfl ?_
      refine r_iload ok218 49 rfl rfl rfl ?_
      refine r_aload_n ok218 50 rfl rfl rfl ?_
      refine r_getF ok218 51 rfl rfl rfl rfl ?_
      refine r_iload_n ok218 52 rfl rfl rfl ?_
      obtain ⟨c11, h11⟩ := h10
      refine r_iald ok218 53 rfl rfl rfl c11 ?_
      refine r_i2l ok218 54 rfl rfl ?_
      refine r_lload ok218 55 rfl rfl rfl ?_
      obtain ⟨c12, h12⟩ := h11
      refine r_ldiv ok218 56 rfl rfl c12 ?_
      obtain ⟨c13, h13⟩ := h12
      refine r_last ok218 57 rfl rfl rfl c13 ?_
      refine r_aload_n ok218 58 rfl rfl rfl ?_
      refine r_getF ok218 59 rfl rfl rfl rfl ?_
      refine r_iload ok218 60 rfl rfl rfl ?_
      refine r_aload_n ok218 61 rfl rfl rfl ?_
      refine r_getF ok218 62 rfl rfl rfl rfl ?_
      refine r_iload_n ok218 63 rfl rfl rfl ?_
      obtain ⟨c14, h14⟩ := h13
      refine r_iald ok218 64 rfl rfl rfl c14 ?_
      refine r_i2l ok218 65 rfl rfl ?_
      refine r_lload ok218 66 rfl rfl rfl ?_
      obtain ⟨c15, h15⟩ := h14
      refine r_ldiv ok218 67 rfl rfl c15 ?_
      obtain ⟨c16, h16⟩ := h15
      refine r_last ok218 68 rfl rfl rfl c16 ?_
      refine r_iinc (v := x6 + 1) ok218 69 rfl rfl rfl rfl ?_
      refine r_goto ok218 70 rfl rfl ?_
      exact h16
    · have h7 := h1.2 c7
      refine r_goto ok218 26 rfl rfl ?_
      refine r_iinc (v := x6 + 1) ok218 69 rfl rfl rfl rfl ?_
      refine r_goto ok218 70 rfl rfl ?_
      exact h7

theorem K218 {Θ : Th} {d : Nat} {σ : Mem} {Q : Po} {x1 : Int32} (h : G Θ (d + 1) 218 0 [some (.ref 124), some (.int x1), none, none, none, none, none] [] σ Q) : Cm Θ (d + 1) 218 [.ref 124, .int x1] σ Q :=
  C_of_G okM218 (Nat.le_of_ble_eq_true rfl) rfl h

-- 219: LikeYearsModel.allCases()I
set_option maxRecDepth 100000 in
set_option maxHeartbeats 4000000 in
theorem B219_0 {Θ : Th} {d : Nat} {σ : Mem} {Q : Po} 
    (h : Q (some (.int (((1 : Int32) <<< ((σ.1 124 38) &&& 31)) - 1))) σ) :
    G Θ d 219 0 [some (.ref 124)] [] σ Q := by
  refine r_iconst (v := 1) ok219 0 rfl rfl rfl ?_
  refine r_aload_n ok219 1 rfl rfl rfl ?_
  refine r_getI ok219 2 rfl rfl rfl rfl ?_
  refine r_ishl ok219 3 rfl rfl ?_
  refine r_iconst (v := 1) ok219 4 rfl rfl rfl ?_
  refine r_isub ok219 5 rfl rfl ?_
  exact r_iret ok219 6 rfl rfl rfl h

theorem K219 {Θ : Th} {d : Nat} {σ : Mem} {Q : Po} (h : G Θ d 219 0 [some (.ref 124)] [] σ Q) : Cm Θ d 219 [.ref 124] σ Q :=
  C_of_G okM219 (Nat.le_of_ble_eq_true rfl) rfl h

-- 220: LikeYearsModel.nextGiven(I)I
set_option maxRecDepth 100000 in
set_option maxHeartbeats 4000000 in
theorem B220_0 {Θ : Th} {d : Nat} {σ : Mem} {Q : Po} {x1 : Int32} 
    (h : G Θ d 220 4 [some (.ref 124), some (.int x1), some (.int (-1)), some (.int 0)] [] σ Q) :
    G Θ d 220 0 [some (.ref 124), some (.int x1), none, none] [] σ Q := by
  refine r_iconst (v := (-1)) ok220 0 rfl rfl rfl ?_
  refine r_istore_n ok220 1 rfl rfl ?_
  refine r_iconst (v := 0) ok220 2 rfl rfl rfl ?_
  refine r_istore_n ok220 3 rfl rfl ?_
  exact h

set_option maxRecDepth 100000 in
set_option maxHeartbeats 4000000 in
theorem B220_4 {Θ : Th} {d : Nat} {σ : Mem} {Q : Po} {x1 : Int32} {x2 : Int32} {x3 : Int32} 
    (h : (((σ.1 124 38) ≤ x3 → Q (some (.int x2)) σ) ∧ (¬ (σ.1 124 38) ≤ x3 → (vp_in x3 16 ∧ (((σ.1 143 x3.toNatClampNeg) ≤ x1 → G Θ d 220 4 [some (.ref 124), some (.int x1), some (.int x2), some (.int (x3 + 1))] [] σ Q) ∧ (¬ (σ.1 143 x3.toNatClampNeg) ≤ x1 → ((x2 < 0 → (vp_in x3 16 ∧ G Θ d 220 4 [some (.ref 124), some (.int x1), some (.int (σ.1 143 x3.toNatClampNeg)), some (.int (x3 + 1))] [] σ Q)) ∧ (¬ x2 < 0 → (vp_in x3 16 ∧ ((x2 ≤ (σ.1 143 x3.toNatClampNeg) → G Θ d 220 4 [some (.ref 124), some (.int x1), some (.int x2), some (.int (x3 + 1))] [] σ Q) ∧ (¬ x2 ≤ (σ.1 143 x3.toNatClampNeg) → (vp_in x3 16 ∧ G Θ d 220 4 [some (.ref 124), some (.int x1), some (.int (σ.1 143 x3.toNatClampNeg)), some (.int (x3 + 1))] [] σ Q)))))))))))) :
    G Θ d 220 4 [some (.ref 124), some (.int x1), some (.int x2), some (.int x3)] [] σ Q := by
  refine r_iload_n ok220 4 rfl rfl rfl ?_
  refine r_aload_n ok220 5 rfl rfl rfl ?_
  refine r_getI ok220 6 rfl rfl rfl rfl ?_
  refine r_icmp_ge ok220 7 rfl rfl (fun c1 => ?_) (fun c1 => ?_)
  · have h1 := h.1 c1
    refine r_iload_n ok220 29 rfl rfl rfl ?_
    exact r_iret ok220 30 rfl rfl rfl h1
  · have h1 := h.2 c1
    refine r_aload_n ok220 8 rfl rfl rfl ?_
    refine r_getF ok220 9 rfl rfl rfl rfl ?_
    refine r_iload_n ok220 10 rfl rfl rfl ?_
    obtain ⟨c2, h2⟩ := h1
    refine r_iald ok220 11 rfl rfl rfl c2 ?_
    refine r_iload_n ok220 12 rfl rfl rfl ?_
    refine r_icmp_le ok220 13 rfl rfl (fun c3 => ?_) (fun c3 => ?_)
    · have h3 := h2.1 c3
      refine r_iinc (v := x3 + 1) ok220 27 rfl rfl rfl rfl ?_
      refine r_goto ok220 28 rfl rfl ?_
      exact h3
    · have h3 := h2.2 c3
      refine r_iload_n ok220 14 rfl rfl rfl ?_
      refine r_if_lt ok220 15 rfl rfl (fun c4 => ?_) (fun c4 => ?_)
      · have h4 := h3.1 c4
        refine r_aload_n ok220 22 rfl rfl rfl ?_
        refine r_getF ok220 23 rfl rfl rfl rfl ?_
        refine r_iload_n ok220 24 rfl rfl rfl ?_
        obtain ⟨c5, h5⟩ := h4
        refine r_iald ok220 25 rfl rfl rfl c5 ?_
        refine r_istore_n ok220 26 rfl rfl ?_
        refine r_iinc (v := x3 + 1) ok220 27 rfl rfl rfl rfl ?_
        refine r_goto ok220 28 rfl rfl ?_
        exact h5
      · have h4 := h3.2 c4
        refine r_aload_n ok220 16 rfl rfl rfl ?_
        refine r_getF ok220 17 rfl rfl rfl rfl ?_
        refine r_iload_n ok220 18 rfl rfl rfl ?_
        obtain ⟨c6, h6⟩ := h4
        refine r_iald ok220 19 rfl rfl rfl c6 ?_
        refine r_iload_n ok220 20 rfl rfl rfl ?_
        refine r_icmp_ge ok220 21 rfl rfl (fun c7 => ?_) (fun c7 => ?_)
        · have h7 := h6.1 c7
          refine r_iinc (v := x3 + 1) ok220 27 rfl rfl rfl rfl ?_
          refine r_goto ok220 28 rfl rfl ?_
          exact h7
        · have h7 := h6.2 c7
          refine r_aload_n ok220 22 rfl rfl rfl ?_
          refine r_getF ok220 23 rfl rfl rfl rfl ?_
          refine r_iload_n ok220 24 rfl rfl rfl ?_
          obtain ⟨c8, h8⟩ := h7
          refine r_iald ok220 25 rfl rfl rfl c8 ?_
          refine r_istore_n ok220 26 rfl rfl ?_
          refine r_iinc (v := x3 + 1) ok220 27 rfl rfl rfl rfl ?_
          refine r_goto ok220 28 rfl rfl ?_
          exact h8

theorem K220 {Θ : Th} {d : Nat} {σ : Mem} {Q : Po} {x1 : Int32} (h : G Θ d 220 0 [some (.ref 124), some (.int x1), none, none] [] σ Q) : Cm Θ d 220 [.ref 124, .int x1] σ Q :=
  C_of_G okM220 (Nat.le_of_ble_eq_true rfl) rfl h

-- 221: LikeYearsModel.raise()V
set_option maxRecDepth 100000 in
set_option maxHeartbeats 4000000 in
theorem B221_0 {Θ : Th} {d : Nat} {σ : Mem} {Q : Po} 
    (h : G Θ (d + 1) 221 9 [some (.ref 124), some (.int 1)] [] (sI σ 156 ((0 : Int32).toNatClampNeg) 0) Q) :
    G Θ (d + 1) 221 0 [some (.ref 124), none] [] σ Q := by
  refine r_aload_n ok221 0 rfl rfl rfl ?_
  refine r_getF ok221 1 rfl rfl rfl rfl ?_
  refine r_iconst (v := 0) ok221 2 rfl rfl rfl ?_
  refine r_iconst (v := 0) ok221 3 rfl rfl rfl ?_
  refine r_iast ok221 4 rfl rfl rfl (by unfold vp_in; decide) ?_
  refine r_iconst (v := 1) ok221 5 rfl rfl rfl ?_
  refine r_istore_n ok221 6 rfl rfl ?_
  exact h

set_option maxRecDepth 100000 in
set_option maxHeartbeats 4000000 in
theorem B221_9 {Θ : Th} {d : Nat} {σ : Mem} {Q : Po} {x1 : Int32} 
    (h : ((((1 : Int32) <<< ((σ.1 124 38) &&& 31)) ≤ x1 → Q none σ) ∧ (¬ ((1 : Int32) <<< ((σ.1 124 38) &&& 31)) ≤ x1 → (vp_in (x1 &&& (x1 - 1)) 65536 ∧ Ci Θ d 215 [.int x1] σ (fun v3 σ3 => (vp_in v3 16 ∧ (vp_in x1 65536 ∧ G Θ (d + 1) 221 9 [some (.ref 124), some (.int (x1 + 1))] [] (sI σ3 156 (x1.toNatClampNeg) ((σ.1 156 (x1 &&& (x1 - 1)).toNatClampNeg) ||| (σ3.1 150 v3.toNatClampNeg))) Q))))))) :
    G Θ (d + 1) 221 9 [some (.ref 124), some (.int x1)] [] σ Q := by
  refine r_iload_n ok221 7 rfl rfl rfl ?_
  refine r_iconst (v := 1) ok221 8 rfl rfl rfl ?_
  refine r_aload_n ok221 9 rfl rfl rfl ?_
  refine r_getI ok221 10 rfl rfl rfl rfl ?_
  refine r_ishl ok221 11 rfl rfl ?_
  refine r_icmp_ge ok221 12 rfl rfl (fun c1 => ?_) (fun c1 => ?_)
  · have h1 := h.1 c1
    exact r_ret ok221 33 rfl rfl rfl h1
  · have h1 := h.2 c1
    refine r_aload_n ok221 13 rfl rfl rfl ?_
    refine r_getF ok221 14 rfl rfl rfl rfl ?_
    refine r_iload_n ok221 15 rfl rfl rfl ?_
    refine r_aload_n ok221 16 rfl rfl rfl ?_
    refine r_getF ok221 17 rfl rfl rfl rfl ?_
    refine r_iload_n ok221 18 rfl rfl rfl ?_
    refine r_iload_n ok221 19 rfl rfl rfl ?_
    refine r_iconst (v := 1) ok221 20 rfl rfl rfl ?_
    refine r_isub ok221 21 rfl rfl ?_
    refine r_iand ok221 22 rfl rfl ?_
    obtain ⟨c2, h2⟩ := h1
    refine r_iald ok221 23 rfl rfl rfl c2 ?_
    refine r_aload_n ok221 24 rfl rfl rfl ?_
    refine r_getF ok221 25 rfl rfl rfl rfl ?_
    refine r_iload_n ok221 26 rfl rfl rfl ?_
    refine r_invSi (as := [.int x1]) (S := [.ref 150, .int (σ.1 156 (x1 &&& (x1 - 1)).toNatClampNeg), .int x1, .ref 156]) ok221 27 rfl rfl mf215 rfl (Nat.le_of_ble_eq_true rfl) rfl h2 (fun v3 σ3 h3 => ?_)
    obtain ⟨c4, h4⟩ := h3
    refine r_iald ok221 28 rfl rfl rfl c4 ?_
    refine r_ior ok221 29 rfl rfl ?_
    obtain ⟨c5, h5⟩ := h4
    refine r_iast ok221 30 rfl rfl rfl c5 ?_
    refine r_iinc (v := x1 + 1) ok221 31 rfl rfl rfl rfl ?_
    refine r_goto ok221 32 rfl rfl ?_
    exact h5

theorem K221 {Θ : Th} {d : Nat} {σ : Mem} {Q : Po} (h : G Θ (d + 1) 221 0 [some (.ref 124), none] [] σ Q) : Cm Θ (d + 1) 221 [.ref 124] σ Q :=
  C_of_G okM221 (Nat.le_of_ble_eq_true rfl) rfl h

-- 222: LikeYearsModel.gaps()V
set_option maxRecDepth 100000 in
set_option maxHeartbeats 4000000 in
theorem B222_0 {Θ : Th} {d : Nat} {σ : Mem} {Q : Po} 
    (h : Cv Θ d 221 [.ref 124] σ (fun σ1 => Ci Θ d 220 [.ref 124, .int (-1)] σ1 (fun v2 σ2 => G Θ (d + 1) 222 12 [some (.ref 124), some (.int v2), some (.int 0), none] [] σ2 Q))) :
    G Θ (d + 1) 222 0 [some (.ref 124), none, none, none] [] σ Q := by
  refine r_aload_n ok222 0 rfl rfl rfl ?_
  refine r_invVv (as := []) (S := []) ok222 1 rfl rfl mf221 rfl rfl (Nat.le_of_ble_eq_true rfl) rfl h (fun σ1 h1 => ?_)
  refine r_aload_n ok222 2 rfl rfl rfl ?_
  refine r_iconst (v := (-1)) ok222 3 rfl rfl rfl ?_
  refine r_invVi (as := [.int (-1)]) (S := []) ok222 4 rfl rfl mf220 rfl rfl (Nat.le_of_ble_eq_true rfl) rfl h1 (fun v2 σ2 h2 => ?_)
  refine r_istore_n ok222 5 rfl rfl ?_
  refine r_iconst (v := 0) ok222 6 rfl rfl rfl ?_
  refine r_istore_n ok222 7 rfl rfl ?_
  exact h2

set_option maxRecDepth 100000 in
set_option maxHeartbeats 4000000 in
theorem B222_12 {Θ : Th} {d : Nat} {σ : Mem} {Q : Po} {x1 : Int32} {x2 : Int32} 
    (h : (((σ.1 124 38) ≤ x2 → ((0 ≤ x1 → Ci Θ d 220 [.ref 124, .int x1] σ (fun v3 σ3 => G Θ (d + 1) 222 47 [some (.ref 124), some (.int v3), none, none] [] σ3 Q)) ∧ (¬ 0 ≤ x1 → G Θ (d + 1) 222 47 [some (.ref 124), some (.int (-1)), none, none] [] σ Q))) ∧ (¬ (σ.1 124 38) ≤ x2 → (vp_in x2 16 ∧ G Θ (d + 1) 222 12 [some (.ref 124), some (.int x1), some (.int (x2 + 1)), none] [] (sI σ 157 (x2.toNatClampNeg) x1) Q)))) :
    G Θ (d + 1) 222 12 [some (.ref 124), some (.int x1), some (.int x2), none] [] σ Q := by
  refine r_iload_n ok222 8 rfl rfl rfl ?_
  refine r_aload_n ok222 9 rfl rfl rfl ?_
  refine r_getI ok222 10 rfl rfl rfl rfl ?_
  refine r_icmp_ge ok222 11 rfl rfl (fun c1 => ?_) (fun c1 => ?_)
  · have h1 := h.1 c1
    refine r_iload_n ok222 19 rfl rfl rfl ?_
    refine r_if_ge ok222 20 rfl rfl (fun c2 => ?_) (fun c2 => ?_)
    · have h2 := h1.1 c2
      refine r_aload_n ok222 23 rfl rfl rfl ?_
      refine r_iload_n ok222 24 rfl rfl rfl ?_
      refine r_invVi (as := [.int x1]) (S := []) ok222 25 rfl rfl mf220 rfl rfl (Nat.le_of_ble_eq_true rfl) rfl h2 (fun v3 σ3 h3 => ?_)
      refine r_istore_n ok222 26 rfl rfl ?_
      exact G.weak (L' := [some (.ref 124), some (.int v3), none, none]) ⟨rfl, ⟨rfl, trivial⟩⟩ h3
    · have h2 := h1.2 c2
      refine r_iconst (v := (-1)) ok222 21 rfl rfl rfl ?_
      refine r_goto ok222 22 rfl rfl ?_
      refine r_istore_n ok222 26 rfl rfl ?_
      exact G.weak (L' := [some (.ref 124), some (.int (-1)), none, none]) ⟨rfl, ⟨rfl, trivial⟩⟩ h2
  · have h1 := h.2 c1
    refine r_aload_n ok222 12 rfl rfl rfl ?_
    refine r_getF ok222 13 rfl rfl rfl rfl ?_
    refine r_iload_n ok222 14 rfl rfl rfl ?_
    refine r_iload_n ok222 15 rfl rfl rfl ?_
    obtain ⟨c4, h4⟩ := h1
    refine r_iast ok222 16 rfl rfl rfl c4 ?_
    refine r_iinc (v := x2 + 1) ok222 17 rfl rfl rfl rfl ?_
    refine r_goto ok222 18 rfl rfl ?_
    exact h4

set_option maxRecDepth 100000 in
set_option maxHeartbeats 4000000 in
theorem B222_47 {Θ : Th} {d : Nat} {σ : Mem} {Q : Po} {x1 : Int32} 
    (h : ((x1 < 0 → Q none σ) ∧ (¬ x1 < 0 → Ci Θ d 223 [.ref 124, .int x1] σ (fun v2 σ2 => G Θ (d + 1) 222 59 [some (.ref 124), some (.int x1), some (.int v2), some (.int 0)] [] σ2 Q)))) :
    G Θ (d + 1) 222 47 [some (.ref 124), some (.int x1), none, none] [] σ Q := by
  refine r_iload_n ok222 27 rfl rfl rfl ?_
  refine r_if_lt ok222 28 rfl rfl (fun c1 => ?_) (fun c1 => ?_)
  · have h1 := h.1 c1
    exact r_ret ok222 58 rfl rfl rfl h1
  · have h1 := h.2 c1
    refine r_aload_n ok222 29 rfl rfl rfl ?_
    refine r_iload_n ok222 30 rfl rfl rfl ?_
    refine r_invVi (as := [.int x1]) (S := []) ok222 31 rfl rfl mf223 rfl rfl (Nat.le_of_ble_eq_true rfl) rfl h1 (fun v2 σ2 h2 => ?_)
    refine r_istore_n ok222 32 rfl rfl ?_
    refine r_iconst (v := 0) ok222 33 rfl rfl rfl ?_
    refine r_istore_n ok222 34 rfl rfl ?_
    exact h2

set_option maxRecDepth 100000 in
set_option maxHeartbeats 4000000 in
theorem B222_59 {Θ : Th} {d : Nat} {σ : Mem} {Q : Po} {x1 : Int32} {x2 : Int32} {x3 : Int32} 
    (h : (((σ.1 124 38) ≤ x3 → Ci Θ d 220 [.ref 124, .int x1] σ (fun v2 σ2 => G Θ (d + 1) 222 47 [some (.ref 124), some (.int v2), none, none] [] σ2 Q)) ∧ (¬ (σ.1 124 38) ≤ x3 → ((¬ ((x2 >>> (x3 &&& 31)) &&& 1) = 1 → G Θ (d + 1) 222 59 [some (.ref 124), some (.int x1), some (.int x2), some (.int (x3 + 1))] [] σ Q) ∧ (((x2 >>> (x3 &&& 31)) &&& 1) = 1 → (vp_in x3 16 ∧ G Θ (d + 1) 222 59 [some (.ref 124), some (.int x1), some (.int x2), some (.int (x3 + 1))] [] (sI σ 157 (x3.toNatClampNeg) x1) Q)))))) :
    G Θ (d + 1) 222 59 [some (.ref 124), some (.int x1), some (.int x2), some (.int x3)] [] σ Q := by
  refine r_iload_n ok222 35 rfl rfl rfl ?_
  refine r_aload_n ok222 36 rfl rfl rfl ?_
  refine r_getI ok222 37 rfl rfl rfl rfl ?_
  refine r_icmp_ge ok222 38 rfl rfl (fun c1 => ?_) (fun c1 => ?_)
  · have h1 := h.1 c1
    refine r_aload_n ok222 53 rfl rfl rfl ?_
    refine r_iload_n ok222 54 rfl rfl rfl ?_
    refine r_invVi (as := [.int x1]) (S := []) ok222 55 rfl rfl mf220 rfl rfl (Nat.le_of_ble_eq_true rfl) rfl h1 (fun v2 σ2 h2 => ?_)
    refine r_istore_n ok222 56 rfl rfl ?_
    refine r_goto ok222 57 rfl rfl ?_
    exact G.weak (L' := [some (.ref 124), some (.int v2), none, none]) ⟨rfl, ⟨rfl, trivial⟩⟩ h2
  · have h1 := h.2 c1
    refine r_iload_n ok222 39 rfl rfl rfl ?_
    refine r_iload_n ok222 40 rfl rfl rfl ?_
    refine r_ishr ok222 41 rfl rfl ?_
    refine r_iconst (v := 1) ok222 42 rfl rfl rfl ?_
    refine r_iand ok222 43 rfl rfl ?_
    refine r_iconst (v := 1) ok222 44 rfl rfl rfl ?_
    refine r_icmp_ne ok222 45 rfl rfl (fun c3 => ?_) (fun c3 => ?_)
    · have h3 := h1.1 c3
      refine r_iinc (v := x3 + 1) ok222 51 rfl rfl rfl rfl ?_
      refine r_goto ok222 52 rfl rfl ?_
      exact h3
    · have h3 := h1.2 c3
      refine r_aload_n ok222 46 rfl rfl rfl ?_
      refine r_getF ok222 47 rfl rfl rfl rfl ?_
      refine r_iload_n ok222 48 rfl rfl rfl ?_
      refine r_iload_n ok222 49 rfl rfl rfl ?_
      obtain ⟨c4, h4⟩ := h3
      refine r_iast ok222 50 rfl rfl rfl c4 ?_
      refine r_iinc (v := x3 + 1) ok222 51 rfl rfl rfl rfl ?_
      refine r_goto ok222 52 rfl rfl ?_
      exact h4

theorem K222 {Θ : Th} {d : Nat} {σ : Mem} {Q : Po} (h : G Θ (d + 1) 222 0 [some (.ref 124), none, none, none] [] σ Q) : Cm Θ (d + 1) 222 [.ref 124] σ Q :=
  C_of_G okM222 (Nat.le_of_ble_eq_true rfl) rfl h

-- 223: LikeYearsModel.leastUpper(I)I
set_option maxRecDepth 100000 in
set_option maxHeartbeats 4000000 in
theorem B223_0 {Θ : Th} {d : Nat} {σ : Mem} {Q : Po} {x1 : Int32} 
    (h : G Θ (d + 1) 223 14 [some (.ref 124), some (.int x1), some (.int 0), some (.int 0), some (.int 1), none] [] (sI σ 153 ((0 : Int32).toNatClampNeg) 0) Q) :
    G Θ (d + 1) 223 0 [some (.ref 124), some (.int x1), none, none, none, none] [] σ Q := by
  refine r_iconst (v := 0) ok223 0 rfl rfl rfl ?_
  refine r_istore_n ok223 1 rfl rfl ?_
  refine r_iconst (v := 0) ok223 2 rfl rfl rfl ?_
  refine r_istore_n ok223 3 rfl rfl ?_
  refine r_aload_n ok223 4 rfl rfl rfl ?_
  refine r_getF ok223 5 rfl rfl rfl rfl ?_
  refine r_iconst (v := 0) ok223 6 rfl rfl rfl ?_
  refine r_iconst (v := 0) ok223 7 rfl rfl rfl ?_
  refine r_iast ok223 8 rfl rfl rfl (by unfold vp_in; decide) ?_
  refine r_iconst (v := 1) ok223 9 rfl rfl rfl ?_
  refine r_istore ok223 10 rfl rfl ?_
  exact h

set_option maxRecDepth 100000 in
set_option maxHeartbeats 4000000 in
theorem B223_14 {Θ : Th} {d : Nat} {σ : Mem} {Q : Po} {x1 : Int32} {x2 : Int32} {x3 : Int32} {x4 : Int32} 
    (h : ((((1 : Int32) <<< ((σ.1 124 38) &&& 31)) ≤ x4 → Q (some (.int x2)) σ) ∧ (¬ ((1 : Int32) <<< ((σ.1 124 38) &&& 31)) ≤ x4 → Ci Θ d 215 [.int x4] σ (fun v2 σ2 => (vp_in (x4 &&& (x4 - 1)) 65536 ∧ (vp_in v2 16 ∧ (((σ2.1 143 v2.toNatClampNeg) < x1 → (vp_in v2 16 ∧ (vp_in x4 65536 ∧ (vp_in x4 65536 ∧ ((((sI σ2 153 (x4.toNatClampNeg) ((σ2.1 153 (x4 &&& (x4 - 1)).toNatClampNeg) + (σ2.1 144 v2.toNatClampNeg))).1 156 x4.toNatClampNeg) = x4 → (vp_in x4 65536 ∧ ((x3 ≤ ((sI σ2 153 (x4.toNatClampNeg) ((σ2.1 153 (x4 &&& (x4 - 1)).toNatClampNeg) + (σ2.1 144 v2.toNatClampNeg))).1 153 x4.toNatClampNeg) → (vp_in x4 65536 ∧ ((¬ ((sI σ2 153 (x4.toNatClampNeg) ((σ2.1 153 (x4 &&& (x4 - 1)).toNatClampNeg) + (σ2.1 144 v2.toNatClampNeg))).1 153 x4.toNatClampNeg) = x3 → G Θ (d + 1) 223 137 [some (.ref 124), some (.int x1), some (.int x2), some (.int x3), some (.int x4), none] [] (sI σ2 153 (x4.toNatClampNeg) ((σ2.1 153 (x4 &&& (x4 - 1)).toNatClampNeg) + (σ2.1 144 v2.toNatClampNeg))) Q) ∧ (((sI σ2 153 (x4.toNatClampNeg) ((σ2.1 153 (x4 &&& (x4 - 1)).toNatClampNeg) + (σ2.1 144 v2.toNatClampNeg))).1 153 x4.toNatClampNeg) = x3 → G Θ (d + 1) 223 137 [some (.ref 124), some (.int x1), some (.int (x2 &&& x4)), some (.int x3), some (.int x4), none] [] (sI σ2 153 (x4.toNatClampNeg) ((σ2.1 153 (x4 &&& (x4 - 1)).toNatClampNeg) + (σ2.1 144 v2.toNatClampNeg))) Q)))) ∧ (¬ x3 ≤ ((sI σ2 153 (x4.toNatClampNeg) ((σ2.1 153 (x4 &&& (x4 - 1)).toNatClampNeg) + (σ2.1 144 v2.toNatClampNeg))).1 153 x4.toNatClampNeg) → (vp_in x4 65536 ∧ G Θ (d + 1) 223 137 [some (.ref 124), some (.int x1), some (.int x4), some (.int ((sI σ2 153 (x4.toNatClampNeg) ((σ2.1 153 (x4 &&& (x4 - 1)).toNatClampNeg) + (σ2.1 144 v2.toNatClampNeg))).1 153 x4.toNatClampNeg)), some (.int x4), none] [] (sI σ2 153 (x4.toNatClampNeg) ((σ2.1 153 (x4 &&& (x4 - 1)).toNatClampNeg) + (σ2.1 144 v2.toNatClampNeg))) Q))))) ∧ (¬ ((sI σ2 153 (x4.toNatClampNeg) ((σ2.1 153 (x4 &&& (x4 - 1)).toNatClampNeg) + (σ2.1 144 v2.toNatClampNeg))).1 156 x4.toNatClampNeg) = x4 → G Θ (d + 1) 223 137 [some (.ref 124), some (.int x1), some (.int x2), some (.int x3), some (.int x4), none] [] (sI σ2 153 (x4.toNatClampNeg) ((σ2.1 153 (x4 &&& (x4 - 1)).toNatClampNeg) + (σ2.1 144 v2.toNatClampNeg))) Q)))))) ∧ (¬ (σ2.1 143 v2.toNatClampNeg) < x1 → (vp_in v2 16 ∧ (vp_in x4 65536 ∧ (vp_in x4 65536 ∧ ((((sI σ2 153 (x4.toNatClampNeg) ((σ2.1 153 (x4 &&& (x4 - 1)).toNatClampNeg) + (-(σ2.1 144 v2.toNatClampNeg)))).1 156 x4.toNatClampNeg) = x4 → (vp_in x4 65536 ∧ ((x3 ≤ ((sI σ2 153 (x4.toNatClampNeg) ((σ2.1 153 (x4 &&& (x4 - 1)).toNatClampNeg) + (-(σ2.1 144 v2.toNatClampNeg)))).1 153 x4.toNatClampNeg) → (vp_in x4 65536 ∧ ((¬ ((sI σ2 153 (x4.toNatClampNeg) ((σ2.1 153 (x4 &&& (x4 - 1)).toNatClampNeg) + (-(σ2.1 144 v2.toNatClampNeg)))).1 153 x4.toNatClampNeg) = x3 → G Θ (d + 1) 223 137 [some (.ref 124), some (.int x1), some (.int x2), some (.int x3), some (.int x4), none] [] (sI σ2 153 (x4.toNatClampNeg) ((σ2.1 153 (x4 &&& (x4 - 1)).toNatClampNeg) + (-(σ2.1 144 v2.toNatClampNeg)))) Q) ∧ (((sI σ2 153 (x4.toNatClampNeg) ((σ2.1 153 (x4 &&& (x4 - 1)).toNatClampNeg) + (-(σ2.1 144 v2.toNatClampNeg)))).1 153 x4.toNatClampNeg) = x3 → G Θ (d + 1) 223 137 [some (.ref 124), some (.int x1), some (.int (x2 &&& x4)), some (.int x3), some (.int x4), none] [] (sI σ2 153 (x4.toNatClampNeg) ((σ2.1 153 (x4 &&& (x4 - 1)).toNatClampNeg) + (-(σ2.1 144 v2.toNatClampNeg)))) Q)))) ∧ (¬ x3 ≤ ((sI σ2 153 (x4.toNatClampNeg) ((σ2.1 153 (x4 &&& (x4 - 1)).toNatClampNeg) + (-(σ2.1 144 v2.toNatClampNeg)))).1 153 x4.toNatClampNeg) → (vp_in x4 65536 ∧ G Θ (d + 1) 223 137 [some (.ref 124), some (.int x1), some (.int x4), some (.int ((sI σ2 153 (x4.toNatClampNeg) ((σ2.1 153 (x4 &&& (x4 - 1)).toNatClampNeg) + (-(σ2.1 144 v2.toNatClampNeg)))).1 153 x4.toNatClampNeg)), some (.int x4), none] [] (sI σ2 153 (x4.toNatClampNeg) ((σ2.1 153 (x4 &&& (x4 - 1)).toNatClampNeg) + (-(σ2.1 144 v2.toNatClampNeg)))) Q))))) ∧ (¬ ((sI σ2 153 (x4.toNatClampNeg) ((σ2.1 153 (x4 &&& (x4 - 1)).toNatClampNeg) + (-(σ2.1 144 v2.toNatClampNeg)))).1 156 x4.toNatClampNeg) = x4 → G Θ (d + 1) 223 137 [some (.ref 124), some (.int x1), some (.int x2), some (.int x3), some (.int x4), none] [] (sI σ2 153 (x4.toNatClampNeg) ((σ2.1 153 (x4 &&& (x4 - 1)).toNatClampNeg) + (-(σ2.1 144 v2.toNatClampNeg)))) Q))))))))))))) :
    G Θ (d + 1) 223 14 [some (.ref 124), some (.int x1), some (.int x2), some (.int x3), some (.int x4), none] [] σ Q := by
  refine r_iload ok223 11 rfl rfl rfl ?_
  refine r_iconst (v := 1) ok223 12 rfl rfl rfl ?_
  refine r_aload_n ok223 13 rfl rfl rfl ?_
  refine r_getI ok223 14 rfl rfl rfl rfl ?_
  refine r_ishl ok223 15 rfl rfl ?_
  refine r_icmp_ge ok223 16 rfl rfl (fun c1 => ?_) (fun c1 => ?_)
  · have h1 := h.1 c1
    refine r_iload_n ok223 82 rfl rfl rfl ?_
    exact r_iret ok223 83 rfl rfl rfl h1
  · have h1 := h.2 c1
    refine r_iload ok223 17 rfl rfl rfl ?_
    refine r_invSi (as := [.int x4]) (S := []) ok223 18 rfl rfl mf215 rfl (Nat.le_of_ble_eq_true rfl) rfl h1 (fun v2 σ2 h2 => ?_)
    refine r_istore ok223 19 rfl rfl ?_
    refine r_aload_n ok223 20 rfl rfl rfl ?_
    refine r_getF ok223 21 rfl rfl rfl rfl ?_
    refine r_iload ok223 22 rfl rfl rfl ?_
    refine r_aload_n ok223 23 rfl rfl rfl ?_
    refine r_getF ok223 24 rfl rfl rfl rfl ?_
    refine r_iload ok223 25 rfl rfl rfl ?_
    refine r_iload ok223 26 rfl rfl rfl ?_
    refine r_iconst (v := 1) ok223 27 rfl rfl rfl ?_
    refine r_isub ok223 28 rfl rfl ?_
    refine r_iand ok223 29 rfl rfl ?_
    obtain ⟨c3, h3⟩ := h2
    refine r_iald ok223 30 rfl rfl rfl c3 ?_
    refine r_aload_n ok223 31 rfl rfl rfl ?_
    refine r_getF ok223 32 rfl rfl rfl rfl ?_
    refine r_iload ok223 33 rfl rfl rfl ?_
    obtain ⟨c4, h4⟩ := h3
    refine r_iald ok223 34 rfl rfl rfl c4 ?_
    refine r_iload_n ok223 35 rfl rfl rfl ?_
    refine r_icmp_lt ok223 36 rfl rfl (fun c5 => ?_) (fun c5 => ?_)
    · have h5 := h4.1 c5
      refine r_aload_n ok223 43 rfl rfl rfl ?_
      refine r_getF ok223 44 rfl rfl rfl rfl ?_
      refine r_iload ok223 45 rfl rfl rfl ?_
      obtain ⟨c6, h6⟩ := h5
      refine r_iald ok223 46 rfl rfl rfl c6 ?_
      refine r_iadd ok223 47 rfl rfl ?_
      obtain ⟨c7, h7⟩ := h6
      refine r_iast ok223 48 rfl rfl rfl c7 ?_
      refine r_aload_n ok223 49 rfl rfl rfl ?_
      refine r_getF ok223 50 rfl rfl rfl rfl ?_
      refine r_iload ok223 51 rfl rfl rfl ?_
      obtain ⟨c8, h8⟩ := h7
      refine r_iald ok223 52 rfl rfl rfl c8 ?_
      refine r_iload ok223 53 rfl rfl rfl ?_
      refine r_icmp_eq ok223 54 rfl rfl (fun c9 => ?_) (fun c9 => ?_)
      · have h9 := h8.1 c9
        refine r_aload_n ok223 56 rfl rfl rfl ?_
        refine r_getF ok223 57 rfl rfl rfl rfl ?_
        refine r_iload ok223 58 rfl rfl rfl ?_
        obtain ⟨c10, h10⟩ := h9
        refine r_iald ok223 59 rfl rfl rfl c10 ?_
        refine r_iload_n ok223 60 rfl rfl rfl ?_
        refine r_icmp_ge ok223 61 rfl rfl (fun c11 => ?_) (fun c11 => ?_)
        · have h11 := h10.1 c11
          refine r_aload_n ok223 70 rfl rfl rfl ?_
          refine r_getF ok223 71 rfl rfl rfl rfl ?_
          refine r_iload ok223 72 rfl rfl rfl ?_
          obtain ⟨c12, h12⟩ := h11
          refine r_iald ok223 73 rfl rfl rfl c12 ?_
          refine r_iload_n ok223 74 rfl rfl rfl ?_
          refine r_icmp_ne ok223 75 rfl rfl (fun c13 => ?_) (fun c13 => ?_)
          · have h13 := h12.1 c13
            exact G.weak (L' := [some (.ref 124), some (.int x1), some (.int x2), some (.int x3), some (.int x4), none]) ⟨rfl, ⟨rfl, ⟨rfl, ⟨rfl, ⟨rfl, trivial⟩⟩⟩⟩⟩ h13
          · have h13 := h12.2 c13
            refine r_iload_n ok223 76 rfl rfl rfl ?_
            refine r_iload ok223 77 rfl rfl rfl ?_
            refine r_iand ok223 78 rfl rfl ?_
            refine r_istore_n ok223 79 rfl rfl ?_
            exact G.weak (L' := [some (.ref 124), some (.int x1), some (.int (x2 &&& x4)), some (.int x3), some (.int x4), none]) ⟨rfl, ⟨rfl, ⟨rfl, ⟨rfl, ⟨rfl, trivial⟩⟩⟩⟩⟩ h13
        · have h11 := h10.2 c11
          refine r_aload_n ok223 62 rfl rfl rfl ?_
          refine r_getF ok223 63 rfl rfl rfl rfl ?_
          refine r_iload ok223 64 rfl rfl rfl ?_
          obtain ⟨c14, h14⟩ := h11
          refine r_iald ok223 65 rfl rfl rfl c14 ?_
          refine r_istore_n ok223 66 rfl rfl ?_
          refine r_iload ok223 67 rfl rfl rfl ?_
          refine r_istore_n ok223 68 rfl rfl ?_
          refine r_goto ok223 69 rfl rfl ?_
          exact G.weak (L' := [some (.ref 124), some (.int x1), some (.int x4), some (.int ((sI σ2 153 (x4.toNatClampNeg) ((σ2.1 153 (x4 &&& (x4 - 1)).toNatClampNeg) + (σ2.1 144 v2.toNatClampNeg))).1 153 x4.toNatClampNeg)), some (.int x4), none]) ⟨rfl, ⟨rfl, ⟨rfl, ⟨rfl, ⟨rfl, trivial⟩⟩⟩⟩⟩ h14
      · have h9 := h8.2 c9
        refine r_goto ok223 55 rfl rfl ?_
        exact G.weak (L' := [some (.ref 124), some (.int x1), some (.int x2), some (.int x3), some (.int x4), none]) ⟨rfl, ⟨rfl, ⟨rfl, ⟨rfl, ⟨rfl, trivial⟩⟩⟩⟩⟩ h9
    · have h5 := h4.2 c5
      refine r_aload_n ok223 37 rfl rfl rfl ?_
      refine r_getF ok223 38 rfl rfl rfl rfl ?_
      refine r_iload ok223 39 rfl rfl rfl ?_
      obtain ⟨c15, h15⟩ := h5
      refine r_iald ok223 40 rfl rfl rfl c15 ?_
      refine r_ineg ok223 41 rfl rfl ?_
      refine r_goto ok223 42 rfl rfl ?_
      refine r_iadd ok223 47 rfl rfl ?_
      obtain ⟨c16, h16⟩ := h15
      refine r_iast ok223 48 rfl rfl rfl c16 ?_
      refine r_aload_n ok223 49 rfl rfl rfl ?_
      refine r_getF ok223 50 rfl rfl rfl rfl ?_
      refine r_iload ok223 51 rfl rfl rfl ?_
      obtain ⟨c17, h17⟩ := h16
      refine r_iald ok223 52 rfl rfl rfl c17 ?_
      refine r_iload ok223 53 rfl rfl rfl ?_
      refine r_icmp_eq ok223 54 rfl rfl (fun c18 => ?_) (fun c18 => ?_)
      · have h18 := h17.1 c18
        refine r_aload_n ok223 56 rfl rfl rfl ?_
        refine r_getF ok223 57 rfl rfl rfl rfl ?_
        refine r_iload ok223 58 rfl rfl rfl ?_
        obtain ⟨c19, h19⟩ := h18
        refine r_iald ok223 59 rfl rfl rfl c19 ?_
        refine r_iload_n ok223 60 rfl rfl rfl ?_
        refine r_icmp_ge ok223 61 rfl rfl (fun c20 => ?_) (fun c20 => ?_)
        · have h20 := h19.1 c20
          refine r_aload_n ok223 70 rfl rfl rfl ?_
          refine r_getF ok223 71 rfl rfl rfl rfl ?_
          refine r_iload ok223 72 rfl rfl rfl ?_
          obtain ⟨c21, h21⟩ := h20
          refine r_iald ok223 73 rfl rfl rfl c21 ?_
          refine r_iload_n ok223 74 rfl rfl rfl ?_
          refine r_icmp_ne ok223 75 rfl rfl (fun c22 => ?_) (fun c22 => ?_)
          · have h22 := h21.1 c22
            exact G.weak (L' := [some (.ref 124), some (.int x1), some (.int x2), some (.int x3), some (.int x4), none]) ⟨rfl, ⟨rfl, ⟨rfl, ⟨rfl, ⟨rfl, trivial⟩⟩⟩⟩⟩ h22
          · have h22 := h21.2 c22
            refine r_iload_n ok223 76 rfl rfl rfl ?_
            refine r_iload ok223 77 rfl rfl rfl ?_
            refine r_iand ok223 78 rfl rfl ?_
            refine r_istore_n ok223 79 rfl rfl ?_
            exact G.weak (L' := [some (.ref 124), some (.int x1), some (.int (x2 &&& x4)), some (.int x3), some (.int x4), none]) ⟨rfl, ⟨rfl, ⟨rfl, ⟨rfl, ⟨rfl, trivial⟩⟩⟩⟩⟩ h22
        · have h20 := h19.2 c20
          refine r_aload_n ok223 62 rfl rfl rfl ?_
          refine r_getF ok223 63 rfl rfl rfl rfl ?_
          refine r_iload ok223 64 rfl rfl rfl ?_
          obtain ⟨c23, h23⟩ := h20
          refine r_iald ok223 65 rfl rfl rfl c23 ?_
          refine r_istore_n ok223 66 rfl rfl ?_
          refine r_iload ok223 67 rfl rfl rfl ?_
          refine r_istore_n ok223 68 rfl rfl ?_
          refine r_goto ok223 69 rfl rfl ?_
          exact G.weak (L' := [some (.ref 124), some (.int x1), some (.int x4), some (.int ((sI σ2 153 (x4.toNatClampNeg) ((σ2.1 153 (x4 &&& (x4 - 1)).toNatClampNeg) + (-(σ2.1 144 v2.toNatClampNeg)))).1 153 x4.toNatClampNeg)), some (.int x4), none]) ⟨rfl, ⟨rfl, ⟨rfl, ⟨rfl, ⟨rfl, trivial⟩⟩⟩⟩⟩ h23
      · have h18 := h17.2 c18
        refine r_goto ok223 55 rfl rfl ?_
        exact G.weak (L' := [some (.ref 124), some (.int x1), some (.int x2), some (.int x3), some (.int x4), none]) ⟨rfl, ⟨rfl, ⟨rfl, ⟨rfl, ⟨rfl, trivial⟩⟩⟩⟩⟩ h18

set_option maxRecDepth 100000 in
set_option maxHeartbeats 4000000 in
theorem B223_137 {Θ : Th} {d : Nat} {σ : Mem} {Q : Po} {x1 : Int32} {x2 : Int32} {x3 : Int32} {x4 : Int32} 
    (h : G Θ (d + 1) 223 14 [some (.ref 124), some (.int x1), some (.int x2), some (.int x3), some (.int (x4 + 1)), none] [] σ Q) :
    G Θ (d + 1) 223 137 [some (.ref 124), some (.int x1), some (.int x2), some (.int x3), some (.int x4), none] [] σ Q := by
  refine r_iinc (v := x4 + 1) ok223 80 rfl rfl rfl rfl ?_
  refine r_goto ok223 81 rfl rfl ?_
  exact h

theorem K223 {Θ : Th} {d : Nat} {σ : Mem} {Q : Po} {x1 : Int32} (h : G Θ (d + 1) 223 0 [some (.ref 124), some (.int x1), none, none, none, none] [] σ Q) : Cm Θ (d + 1) 223 [.ref 124, .int x1] σ Q :=
  C_of_G okM223 (Nat.le_of_ble_eq_true rfl) rfl h

-- 224: LikeYearsModel.gapOff(I)I
set_option maxRecDepth 100000 in
set_option maxHeartbeats 4000000 in
theorem B224_0 {Θ : Th} {d : Nat} {σ : Mem} {Q : Po} {x1 : Int32} 
    (h : (vp_in x1 16 ∧ (vp_in x1 16 ∧ (vp_in x1 16 ∧ (((σ.1 157 x1.toNatClampNeg) ≤ (σ.1 143 x1.toNatClampNeg) → (vp_in x1 16 ∧ (vp_in x1 16 ∧ Q (some (.int ((σ.1 144 x1.toNatClampNeg) * ((σ.1 143 x1.toNatClampNeg) - (σ.1 157 x1.toNatClampNeg))))) σ))) ∧ (¬ (σ.1 157 x1.toNatClampNeg) ≤ (σ.1 143 x1.toNatClampNeg) → (vp_in x1 16 ∧ (vp_in x1 16 ∧ Q (some (.int ((σ.1 144 x1.toNatClampNeg) * ((σ.1 157 x1.toNatClampNeg) - (σ.1 143 x1.toNatClampNeg))))) σ)))))))) :
    G Θ d 224 0 [some (.ref 124), some (.int x1)] [] σ Q := by
  refine r_aload_n ok224 0 rfl rfl rfl ?_
  refine r_getF ok224 1 rfl rfl rfl rfl ?_
  refine r_iload_n ok224 2 rfl rfl rfl ?_
  obtain ⟨c1, h1⟩ := h
  refine r_iald ok224 3 rfl rfl rfl c1 ?_
  refine r_aload_n ok224 4 rfl rfl rfl ?_
  refine r_getF ok224 5 rfl rfl rfl rfl ?_
  refine r_iload_n ok224 6 rfl rfl rfl ?_
  obtain ⟨c2, h2⟩ := h1
  refine r_iald ok224 7 rfl rfl rfl c2 ?_
  refine r_aload_n ok224 8 rfl rfl rfl ?_
  refine r_getF ok224 9 rfl rfl rfl rfl ?_
  refine r_iload_n ok224 10 rfl rfl rfl ?_
  obtain ⟨c3, h3⟩ := h2
  refine r_iald ok224 11 rfl rfl rfl c3 ?_
  refine r_icmp_ge ok224 12 rfl rfl (fun c4 => ?_) (fun c4 => ?_)
  · have h4 := h3.1 c4
    refine r_aload_n ok224 23 rfl rfl rfl ?_
    refine r_getF ok224 24 rfl rfl rfl rfl ?_
    refine r_iload_n ok224 25 rfl rfl rfl ?_
    obtain ⟨c5, h5⟩ := h4
    refine r_iald ok224 26 rfl rfl rfl c5 ?_
    refine r_aload_n ok224 27 rfl rfl rfl ?_
    refine r_getF ok224 28 rfl rfl rfl rfl ?_
    refine r_iload_n ok224 29 rfl rfl rfl ?_
    obtain ⟨c6, h6⟩ := h5
    refine r_iald ok224 30 rfl rfl rfl c6 ?_
    refine r_isub ok224 31 rfl rfl ?_
    refine r_imul ok224 32 rfl rfl ?_
    exact r_iret ok224 33 rfl rfl rfl h6
  · have h4 := h3.2 c4
    refine r_aload_n ok224 13 rfl rfl rfl ?_
    refine r_getF ok224 14 rfl rfl rfl rfl ?_
    refine r_iload_n ok224 15 rfl rfl rfl ?_
    obtain ⟨c7, h7⟩ := h4
    refine r_iald ok224 16 rfl rfl rfl c7 ?_
    refine r_aload_n ok224 17 rfl rfl rfl ?_
    refine r_getF ok224 18 rfl rfl rfl rfl ?_
    refine r_iload_n ok224 19 rfl rfl rfl ?_
    obtain ⟨c8, h8⟩ := h7
    refine r_iald ok224 20 rfl rfl rfl c8 ?_
    refine r_isub ok224 21 rfl rfl ?_
    refine r_goto ok224 22 rfl rfl ?_
    refine r_imul ok224 32 rfl rfl ?_
    exact r_iret ok224 33 rfl rfl rfl h8

theorem K224 {Θ : Th} {d : Nat} {σ : Mem} {Q : Po} {x1 : Int32} (h : G Θ d 224 0 [some (.ref 124), some (.int x1)] [] σ Q) : Cm Θ d 224 [.ref 124, .int x1] σ Q :=
  C_of_G okM224 (Nat.le_of_ble_eq_true rfl) rfl h

-- 225: LikeYearsModel.partedFrom(I)I
set_option maxRecDepth 100000 in
set_option maxHeartbeats 4000000 in
theorem B225_0 {Θ : Th} {d : Nat} {σ : Mem} {Q : Po} {x1 : Int32} 
    (h : G Θ (d + 1) 225 7 [some (.ref 124), some (.int x1), some (.int 0), some (.long 0), none, some (.int 1), none, none] [] σ Q) :
    G Θ (d + 1) 225 0 [some (.ref 124), some (.int x1), none, none, none, none, none, none] [] σ Q := by
  refine r_iconst (v := 0) ok225 0 rfl rfl rfl ?_
  refine r_istore_n ok225 1 rfl rfl ?_
  refine r_lconst (v := 0) ok225 2 rfl rfl rfl ?_
  refine r_lstore_n ok225 3 rfl rfl ?_
  refine r_iconst (v := 1) ok225 4 rfl rfl rfl ?_
  refine r_istore ok225 5 rfl rfl ?_
  exact h

set_option maxRecDepth 100000 in
set_option maxHeartbeats 4000000 in
theorem B225_7 {Θ : Th} {d : Nat} {σ : Mem} {Q : Po} {x1 : Int32} {x2 : Int32} {x3 : Int64} {x5 : Int32} 
    (h : ((x1 < x5 → Q (some (.int x2)) σ) ∧ (¬ x1 < x5 → ((¬ (x5 &&& (x1 ^^^ (-1))) = 0 → G Θ (d + 1) 225 7 [some (.ref 124), some (.int x1), some (.int x2), some (.long x3), none, some (.int (x5 + 1)), none, none] [] σ Q) ∧ ((x5 &&& (x1 ^^^ (-1))) = 0 → (vp_in x5 65536 ∧ ((((σ.1 156 x5.toNatClampNeg) &&& x1) = x5 → (vp_in x5 65536 ∧ (vp_in x1 65536 ∧ (vp_in x5 65536 ∧ (vp_in x1 65536 ∧ (((lg_cmp ((((σ.1 153 x5.toNatClampNeg).toInt64) * ((σ.1 152 x1.toNatClampNeg).toInt64)) - (((σ.1 152 x5.toNatClampNeg).toInt64) * ((σ.1 153 x1.toNatClampNeg).toInt64))) x3) < 0 → G Θ (d + 1) 225 7 [some (.ref 124), some (.int x1), some (.int x2), some (.long x3), none, some (.int (x5 + 1)), none, none] [] σ Q) ∧ (¬ (lg_cmp ((((σ.1 153 x5.toNatClampNeg).toInt64) * ((σ.1 152 x1.toNatClampNeg).toInt64)) - (((σ.1 152 x5.toNatClampNeg).toInt64) * ((σ.1 153 x1.toNatClampNeg).toInt64))) x3) < 0 → ((¬ (lg_cmp ((((σ.1 153 x5.toNatClampNeg).toInt64) * ((σ.1 152 x1.toNatClampNeg).toInt64)) - (((σ.1 152 x5.toNatClampNeg).toInt64) * ((σ.1 153 x1.toNatClampNeg).toInt64))) x3) = 0 → G Θ (d + 1) 225 7 [some (.ref 124), some (.int x1), some (.int x5), some (.long ((((σ.1 153 x5.toNatClampNeg).toInt64) * ((σ.1 152 x1.toNatClampNeg).toInt64)) - (((σ.1 152 x5.toNatClampNeg).toInt64) * ((σ.1 153 x1.toNatClampNeg).toInt64)))), none, some (.int (x5 + 1)), none, none] [] σ Q) ∧ ((lg_cmp ((((σ.1 153 x5.toNatClampNeg).toInt64) * ((σ.1 152 x1.toNatClampNeg).toInt64)) - (((σ.1 152 x5.toNatClampNeg).toInt64) * ((σ.1 153 x1.toNatClampNeg).toInt64))) x3) = 0 → ((x2 = 0 → G Θ (d + 1) 225 7 [some (.ref 124), some (.int x1), some (.int x2), some (.long x3), none, some (.int (x5 + 1)), none, none] [] σ Q) ∧ (¬ x2 = 0 → Ci Θ d 230 [.int x5] σ (fun v12 σ12 => Ci Θ d 230 [.int x2] σ12 (fun v13 σ13 => ((v12 < v13 → G Θ (d + 1) 225 7 [some (.ref 124), some (.int x1), some (.int x5), some (.long ((((σ.1 153 x5.toNatClampNeg).toInt64) * ((σ.1 152 x1.toNatClampNeg).toInt64)) - (((σ.1 152 x5.toNatClampNeg).toInt64) * ((σ.1 153 x1.toNatClampNeg).toInt64)))), none, some (.int (x5 + 1)), none, none] [] σ13 Q) ∧ (¬ v12 < v13 → G Θ (d + 1) 225 7 [some (.ref 124), some (.int x1), some (.int x2), some (.long x3), none, some (.int (x5 + 1)), none, none] [] σ13 Q))))))))))))))) ∧ (¬ ((σ.1 156 x5.toNatClampNeg) &&& x1) = x5 → G Θ (d + 1) 225 7 [some (.ref 124), some (.int x1), some (.int x2), some (.long x3), none, some (.int (x5 + 1)), none, none] [] σ Q)))))))) :
    G Θ (d + 1) 225 7 [some (.ref 124), some (.int x1), some (.int x2), some (.long x3), none, some (.int x5), none, none] [] σ Q := by
  refine r_iload ok225 6 rfl rfl rfl ?_
  refine r_iload_n ok225 7 rfl rfl rfl ?_
  refine r_icmp_gt ok225 8 rfl rfl (fun c1 => ?_) (fun c1 => ?_)
  · have h1 := h.1 c1
    refine r_iload_n ok225 70 rfl rfl rfl ?_
    exact r_iret ok225 71 rfl rfl rfl h1
  · have h1 := h.2 c1
    refine r_iload ok225 9 rfl rfl rfl ?_
    refine r_iload_n ok225 10 rfl rfl rfl ?_
    refine r_iconst (v := (-1)) ok225 11 rfl rfl rfl ?_
    refine r_ixor ok225 12 rfl rfl ?_
    refine r_iand ok225 13 rfl rfl ?_
    refine r_if_ne ok225 14 rfl rfl (fun c2 => ?_) (fun c2 => ?_)
    · have h2 := h1.1 c2
      refine r_iinc (v := x5 + 1) ok225 68 rfl rfl rfl rfl ?_
      refine r_goto ok225 69 rfl rfl ?_
      exact h2
    · have h2 := h1.2 c2
      refine r_aload_n ok225 15 rfl rfl rfl ?_
      refine r_getF ok225 16 rfl rfl rfl rfl ?_
      refine r_iload ok225 17 rfl rfl rfl ?_
      obtain ⟨c3, h3⟩ := h2
      refine r_iald ok225 18 rfl rfl rfl c3 ?_
      refine r_iload_n ok225 19 rfl rfl rfl ?_
      refine r_iand ok225 20 rfl rfl ?_
      refine r_iload ok225 21 rfl rfl rfl ?_
      refine r_icmp_eq ok225 22 rfl rfl (fun c4 => ?_) (fun c4 => ?_)
      · have h4 := h3.1 c4
        refine r_aload_n ok225 24 rfl rfl rfl ?_
        refine r_getF ok225 25 rfl rfl rfl rfl ?_
        refine r_iload ok225 26 rfl rfl rfl ?_
        obtain ⟨c5, h5⟩ := h4
        refine r_iald ok225 27 rfl rfl rfl c5 ?_
        refine r_i2l ok225 28 rfl rfl ?_
        refine r_aload_n ok225 29 rfl rfl rfl ?_
        refine r_getF ok225 30 rfl rfl rfl rfl ?_
        refine r_iload_n ok225 31 rfl rfl rfl ?_
        obtain ⟨c6, h6⟩ := h5
        refine r_iald ok225 32 rfl rfl rfl c6 ?_
        refine r_i2l ok225 33 rfl rfl ?_
        refine r_lmul ok225 34 rfl rfl ?_
        refine r_aload_n ok225 35 rfl rfl rfl ?_
        refine r_getF ok225 36 rfl rfl rfl rfl ?_
        refine r_iload ok225 37 rfl rfl rfl ?_
        obtain ⟨c7, h7⟩ := h6
        refine r_iald ok225 38 rfl rfl rfl c7 ?_
        refine r_i2l ok225 39 rfl rfl ?_
        refine r_aload_n ok225 40 rfl rfl rfl ?_
        refine r_getF ok225 41 rfl rfl rfl rfl ?_
        refine r_iload_n ok225 42 rfl rfl rfl ?_
        obtain ⟨c8, h8⟩ := h7
        refine r_iald ok225 43 rfl rfl rfl c8 ?_
        refine r_i2l ok225 44 rfl rfl ?_
        refine r_lmul ok225 45 rfl rfl ?_
        refine r_lsub ok225 46 rfl rfl ?_
        refine r_lstore ok225 47 rfl rfl ?_
        refine r_lload ok225 48 rfl rfl rfl ?_
        refine r_lload_n ok225 49 rfl rfl rfl ?_
        refine r_lcmp ok225 50 rfl rfl ?_
        refine r_if_lt ok225 51 rfl rfl (fun c9 => ?_) (fun c9 => ?_)
        · have h9 := h8.1 c9
          refine r_iinc (v := x5 + 1) ok225 68 rfl rfl rfl rfl ?_
          refine r_goto ok225 69 rfl rfl ?_
          exact G.weak (L' := [some (.ref 124), some (.int x1), some (.int x2), some (.long x3), none, some (.int (x5 + 1)), none, none]) ⟨rfl, ⟨rfl, ⟨rfl, ⟨rfl, ⟨rfl, trivial⟩⟩⟩⟩⟩ h9
        · have h9 := h8.2 c9
          refine r_lload ok225 52 rfl rfl rfl ?_
          refine r_lload_n ok225 53 rfl rfl rfl ?_
          refine r_lcmp ok225 54 rfl rfl ?_
          refine r_if_ne ok225 55 rfl rfl (fun c10 => ?_) (fun c10 => ?_)
          · have h10 := h9.1 c10
            refine r_iload ok225 64 rfl rfl rfl ?_
            refine r_istore_n ok225 65 rfl rfl ?_
            refine r_lload ok225 66 rfl rfl rfl ?_
            refine r_lstore_n ok225 67 rfl rfl ?_
            refine r_iinc (v := x5 + 1) ok225 68 rfl rfl rfl rfl ?_
            refine r_goto ok225 69 rfl rfl ?_
            exact G.weak (L' := [some (.ref 124), some (.int x1), some (.int x5), some (.long ((((σ.1 153 x5.toNatClampNeg).toInt64) * ((σ.1 152 x1.toNatClampNeg).toInt64)) - (((σ.1 152 x5.toNatClampNeg).toInt64) * ((σ.1 153 x1.toNatClampNeg).toInt64)))), none, some (.int (x5 + 1)), none, none]) ⟨rfl, ⟨rfl, ⟨rfl, ⟨rfl, ⟨rfl, trivial⟩⟩⟩⟩⟩ h10
          · have h10 := h9.2 c10
            refine r_iload_n ok225 56 rfl rfl rfl ?_
            refine r_if_eq ok225 57 rfl rfl (fun c11 => ?_) (fun c11 => ?_)
            · have h11 := h10.1 c11
              refine r_iinc (v := x5 + 1) ok225 68 rfl rfl rfl rfl ?_
              refine r_goto ok225 69 rfl rfl ?_
              exact G.weak (L' := [some (.ref 124), some (.int x1), some (.int x2), some (.long x3), none, some (.int (x5 + 1)), none, none]) ⟨rfl, ⟨rfl, ⟨rfl, ⟨rfl, ⟨rfl, trivial⟩⟩⟩⟩⟩ h11
            · have h11 := h10.2 c11
              refine r_iload ok225 58 rfl rfl rfl ?_
              refine r_invSi (as := [.int x5]) (S := []) ok225 59 rfl rfl mf230 rfl (Nat.le_of_ble_eq_true rfl) rfl h11 (fun v12 σ12 h12 => ?_)
              refine r_iload_n ok225 60 rfl rfl rfl ?_
              refine r_invSi (as := [.int x2]) (S := [.int v12]) ok225 61 rfl rfl mf230 rfl (Nat.le_of_ble_eq_true rfl) rfl h12 (fun v13 σ13 h13 => ?_)
              refine r_icmp_lt ok225 62 rfl rfl (fun c14 => ?_) (fun c14 => ?_)
              · have h14 := h13.1 c14
                refine r_iload ok225 64 rfl rfl rfl ?_
                refine r_istore_n ok225 65 rfl rfl ?_
                refine r_lload ok225 66 rfl rfl rfl ?_
                refine r_lstore_n ok225 67 rfl rfl ?_
                refine r_iinc (v := x5 + 1) ok225 68 rfl rfl rfl rfl ?_
                refine r_goto ok225 69 rfl rfl ?_
                exact G.weak (L' := [some (.ref 124), some (.int x1), some (.int x5), some (.long ((((σ.1 153 x5.toNatClampNeg).toInt64) * ((σ.1 152 x1.toNatClampNeg).toInt64)) - (((σ.1 152 x5.toNatClampNeg).toInt64) * ((σ.1 153 x1.toNatClampNeg).toInt64)))), none, some (.int (x5 + 1)), none, none]) ⟨rfl, ⟨rfl, ⟨rfl, ⟨rfl, ⟨rfl, trivial⟩⟩⟩⟩⟩ h14
              · have h14 := h13.2 c14
                refine r_goto ok225 63 rfl rfl ?_
                refine r_iinc (v := x5 + 1) ok225 68 rfl rfl rfl rfl ?_
                refine r_goto ok225 69 rfl rfl ?_
                exact G.weak (L' := [some (.ref 124), some (.int x1), some (.int x2), some (.long x3), none, some (.int (x5 + 1)), none, none]) ⟨rfl, ⟨rfl, ⟨rfl, ⟨rfl, ⟨rfl, trivial⟩⟩⟩⟩⟩ h14
      · have h4 := h3.2 c4
        refine r_goto ok225 23 rfl rfl ?_
        refine r_iinc (v := x5 + 1) ok225 68 rfl rfl rfl rfl ?_
        refine r_goto ok225 69 rfl rfl ?_
        exact h4

theorem K225 {Θ : Th} {d : Nat} {σ : Mem} {Q : Po} {x1 : Int32} (h : G Θ (d + 1) 225 0 [some (.ref 124), some (.int x1), none, none, none, none, none, none] [] σ Q) : Cm Θ (d + 1) 225 [.ref 124, .int x1] σ Q :=
  C_of_G okM225 (Nat.le_of_ble_eq_true rfl) rfl h
