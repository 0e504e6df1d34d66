-- 275: LikeYearsModel.act(III)V
set_option maxRecDepth 100000 in
set_option maxHeartbeats 4000000 in
theorem B275_0 {Θ : Th} {d : Nat} {σ : Mem} {Q : Po} {x1 : Int32} {x2 : Int32} {x3 : Int32} 
    (h : ((¬ (σ.1 124 78) = 60 → (vp_in (σ.1 124 78) 60 ∧ (vp_in ((sI σ 174 ((σ.1 124 78).toNatClampNeg) x1).1 124 78) 60 ∧ (vp_in ((sI (sI σ 174 ((σ.1 124 78).toNatClampNeg) x1) 175 (((sI σ 174 ((σ.1 124 78).toNatClampNeg) x1).1 124 78).toNatClampNeg) x2).1 124 78) 60 ∧ Q none (sI (sI (sI (sI (sI σ 174 ((σ.1 124 78).toNatClampNeg) x1) 175 (((sI σ 174 ((σ.1 124 78).toNatClampNeg) x1).1 124 78).toNatClampNeg) x2) 176 (((sI (sI σ 174 ((σ.1 124 78).toNatClampNeg) x1) 175 (((sI σ 174 ((σ.1 124 78).toNatClampNeg) x1).1 124 78).toNatClampNeg) x2).1 124 78).toNatClampNeg) x3) 124 78 (((sI (sI (sI σ 174 ((σ.1 124 78).toNatClampNeg) x1) 175 (((sI σ 174 ((σ.1 124 78).toNatClampNeg) x1).1 124 78).toNatClampNeg) x2) 176 (((sI (sI σ 174 ((σ.1 124 78).toNatClampNeg) x1) 175 (((sI σ 174 ((σ.1 124 78).toNatClampNeg) x1).1 124 78).toNatClampNeg) x2).1 124 78).toNatClampNeg) x3).1 124 78) + 1)) 124 79 0))))) ∧ ((σ.1 124 78) = 60 → G Θ d 275 12 [some (.ref 124), some (.int x1), some (.int x2), some (.int x3), some (.int 1)] [] σ Q))) :
    G Θ d 275 0 [some (.ref 124), some (.int x1), some (.int x2), some (.int x3), none] [] σ Q := by
  refine r_aload_n ok275 0 rfl rfl rfl ?_
  refine r_getI ok275 1 rfl rfl rfl rfl ?_
  refine r_bipush (v := 60) ok275 2 rfl rfl rfl ?_
  refine r_icmp_ne ok275 3 rfl rfl (fun c1 => ?_) (fun c1 => ?_)
  · have h1 := h.1 c1
    refine r_aload_n ok275 47 rfl rfl rfl ?_
    refine r_getF ok275 48 rfl rfl rfl rfl ?_
    refine r_aload_n ok275 49 rfl rfl rfl ?_
    refine r_getI ok275 50 rfl rfl rfl rfl ?_
    refine r_iload_n ok275 51 rfl rfl rfl ?_
    obtain ⟨c2, h2⟩ := h1
    refine r_iast ok275 52 rfl rfl rfl c2 ?_
    refine r_aload_n ok275 53 rfl rfl rfl ?_
    refine r_getF ok275 54 rfl rfl rfl rfl ?_
    refine r_aload_n ok275 55 rfl rfl rfl ?_
    refine r_getI ok275 56 rfl rfl rfl rfl ?_
    refine r_iload_n ok275 57 rfl rfl rfl ?_
    obtain ⟨c3, h3⟩ := h2
    refine r_iast ok275 58 rfl rfl rfl c3 ?_
    refine r_aload_n ok275 59 rfl rfl rfl ?_
    refine r_getF ok275 60 rfl rfl rfl rfl ?_
    refine r_aload_n ok275 61 rfl rfl rfl ?_
    refine r_getI ok275 62 rfl rfl rfl rfl ?_
    refine r_iload_n ok275 63 rfl rfl rfl ?_
    obtain ⟨c4, h4⟩ := h3
    refine r_iast ok275 64 rfl rfl rfl c4 ?_
    refine r_aload_n ok275 65 rfl rfl rfl ?_
    refine r_dup ok275 66 rfl rfl rfl ?_
    refine r_getI ok275 67 rfl rfl rfl rfl ?_
    refine r_iconst (v := 1) ok275 68 rfl rfl rfl ?_
    refine r_iadd ok275 69 rfl rfl ?_
    refine r_putI ok275 70 rfl rfl rfl rfl ?_
    refine r_aload_n ok275 71 rfl rfl rfl ?_
    refine r_iconst (v := 0) ok275 72 rfl rfl rfl ?_
    refine r_putI ok275 73 rfl rfl rfl rfl ?_
    exact r_ret ok275 74 rfl rfl rfl h4
  · have h1 := h.2 c1
    refine r_iconst (v := 1) ok275 4 rfl rfl rfl ?_
    refine r_istore ok275 5 rfl rfl ?_
    exact h1

set_option maxRecDepth 100000 in
set_option maxHeartbeats 4000000 in
theorem B275_12 {Θ : Th} {d : Nat} {σ : Mem} {Q : Po} {x1 : Int32} {x2 : Int32} {x3 : Int32} {x4 : Int32} 
    (h : ((60 ≤ x4 → (vp_in ((sI σ 124 78 ((σ.1 124 78) - 1)).1 124 78) 60 ∧ (vp_in ((sI (sI σ 124 78 ((σ.1 124 78) - 1)) 174 (((sI σ 124 78 ((σ.1 124 78) - 1)).1 124 78).toNatClampNeg) x1).1 124 78) 60 ∧ (vp_in ((sI (sI (sI σ 124 78 ((σ.1 124 78) - 1)) 174 (((sI σ 124 78 ((σ.1 124 78) - 1)).1 124 78).toNatClampNeg) x1) 175 (((sI (sI σ 124 78 ((σ.1 124 78) - 1)) 174 (((sI σ 124 78 ((σ.1 124 78) - 1)).1 124 78).toNatClampNeg) x1).1 124 78).toNatClampNeg) x2).1 124 78) 60 ∧ Q none (sI (sI (sI (sI (sI (sI σ 124 78 ((σ.1 124 78) - 1)) 174 (((sI σ 124 78 ((σ.1 124 78) - 1)).1 124 78).toNatClampNeg) x1) 175 (((sI (sI σ 124 78 ((σ.1 124 78) - 1)) 174 (((sI σ 124 78 ((σ.1 124 78) - 1)).1 124 78).toNatClampNeg) x1).1 124 78).toNatClampNeg) x2) 176 (((sI (sI (sI σ 124 78 ((σ.1 124 78) - 1)) 174 (((sI σ 124 78 ((σ.1 124 78) - 1)).1 124 78).toNatClampNeg) x1) 175 (((sI (sI σ 124 78 ((σ.1 124 78) - 1)) 174 (((sI σ 124 78 ((σ.1 124 78) - 1)).1 124 78).toNatClampNeg) x1).1 124 78).toNatClampNeg) x2).1 124 78).toNatClampNeg) x3) 124 78 (((sI (sI (sI (sI σ 124 78 ((σ.1 124 78) - 1)) 174 (((sI σ 124 78 ((σ.1 124 78) - 1)).1 124 78).toNatClampNeg) x1) 175 (((sI (sI σ 124 78 ((σ.1 124 78) - 1)) 174 (((sI σ 124 78 ((σ.1 124 78) - 1)).1 124 78).toNatClampNeg) x1).1 124 78).toNatClampNeg) x2) 176 (((sI (sI (sI σ 124 78 ((σ.1 124 78) - 1)) 174 (((sI σ 124 78 ((σ.1 124 78) - 1)).1 124 78).toNatClampNeg) x1) 175 (((sI (sI σ 124 78 ((σ.1 124 78) - 1)) 174 (((sI σ 124 78 ((σ.1 124 78) - 1)).1 124 78).toNatClampNeg) x1).1 124 78).toNatClampNeg) x2).1 124 78).toNatClampNeg) x3).1 124 78) + 1)) 124 79 0))))) ∧ (¬ 60 ≤ x4 → (vp_in x4 60 ∧ (vp_in (x4 - 1) 60 ∧ (vp_in x4 60 ∧ (vp_in (x4 - 1) 60 ∧ (vp_in x4 60 ∧ (vp_in (x4 - 1) 60 ∧ G Θ d 275 12 [some (.ref 124), some (.int x1), some (.int x2), some (.int x3), some (.int (x4 + 1))] [] (sI (sI (sI σ 174 ((x4 - 1).toNatClampNeg) (σ.1 174 x4.toNatClampNeg)) 175 ((x4 - 1).toNatClampNeg) ((sI σ 174 ((x4 - 1).toNatClampNeg) (σ.1 174 x4.toNatClampNeg)).1 175 x4.toNatClampNeg)) 176 ((x4 - 1).toNatClampNeg) ((sI (sI σ 174 ((x4 - 1).toNatClampNeg) (σ.1 174 x4.toNatClampNeg)) 175 ((x4 - 1).toNatClampNeg) ((sI σ 174 ((x4 - 1).toNatClampNeg) (σ.1 174 x4.toNatClampNeg)).1 175 x4.toNatClampNeg)).1 176 x4.toNatClampNeg)) Q))))))))) :
    G Θ d 275 12 [some (.ref 124), some (.int x1), some (.int x2), some (.int x3), some (.int x4)] [] σ Q := by
  refine r_iload ok275 6 rfl rfl rfl ?_
  refine r_bipush (v := 60) ok275 7 rfl rfl rfl ?_
  refine r_icmp_ge ok275 8 rfl rfl (fun c1 => ?_) (fun c1 => ?_)
  · have h1 := h.1 c1
    refine r_aload_n ok275 41 rfl rfl rfl ?_
    refine r_dup ok275 42 rfl rfl rfl ?_
    refine r_getI ok275 43 rfl rfl rfl rfl ?_
    refine r_iconst (v := 1) ok275 44 rfl rfl rfl ?_
    refine r_isub ok275 45 rfl rfl ?_
    refine r_putI ok275 46 rfl rfl rfl rfl ?_
    refine r_aload_n ok275 47 rfl rfl rfl ?_
    refine r_getF ok275 48 rfl rfl rfl rfl ?_
    refine r_aload_n ok275 49 rfl rfl rfl ?_
    refine r_getI ok275 50 rfl rfl rfl rfl ?_
    refine r_iload_n ok275 51 rfl rfl rfl ?_
    obtain ⟨c2, h2⟩ := h1
    refine r_iast ok275 52 rfl rfl rfl c2 ?_
    refine r_aload_n ok275 53 rfl rfl rfl ?_
    refine r_getF ok275 54 rfl rfl rfl rfl ?_
    refine r_aload_n ok275 55 rfl rfl rfl ?_
    refine r_getI ok275 56 rfl rfl rfl rfl ?_
    refine r_iload_n ok275 57 rfl rfl rfl ?_
    obtain ⟨c3, h3⟩ := h2
    refine r_iast ok275 58 rfl rfl rfl c3 ?_
    refine r_aload_n ok275 59 rfl rfl rfl ?_
    refine r_getF ok275 60 rfl rfl rfl rfl ?_
    refine r_aload_n ok275 61 rfl rfl rfl ?_
    refine r_getI ok275 62 rfl rfl rfl rfl ?_
    refine r_iload_n ok275 63 rfl rfl rfl ?_
    obtain ⟨c4, h4⟩ := h3
    refine r_iast ok275 64 rfl rfl rfl c4 ?_
    refine r_aload_n ok275 65 rfl rfl rfl ?_
    refine r_dup ok275 66 rfl rfl rfl ?_
    refine r_getI ok275 67 rfl rfl rfl rfl ?_
    refine r_iconst (v := 1) ok275 68 rfl rfl rfl ?_
    refine r_iadd ok275 69 rfl rfl ?_
    refine r_putI ok275 70 rfl rfl rfl rfl ?_
    refine r_aload_n ok275 71 rfl rfl rfl ?_
    refine r_iconst (v := 0) ok275 72 rfl rfl rfl ?_
    refine r_putI ok275 73 rfl rfl rfl rfl ?_
    exact r_ret ok275 74 rfl rfl rfl h4
  · have h1 := h.2 c1
    refine r_aload_n ok275 9 rfl rfl rfl ?_
    refine r_getF ok275 10 rfl rfl rfl rfl ?_
    refine r_iload ok275 11 rfl rfl rfl ?_
    refine r_iconst (v := 1) ok275 12 rfl rfl rfl ?_
    refine r_isub ok275 13 rfl rfl ?_
    refine r_aload_n ok275 14 rfl rfl rfl ?_
    refine r_getF ok275 15 rfl rfl rfl rfl ?_
    refine r_iload ok275 16 rfl rfl rfl ?_
    obtain ⟨c5, h5⟩ := h1
    refine r_iald ok275 17 rfl rfl rfl c5 ?_
    obtain ⟨c6, h6⟩ := h5
    refine r_iast ok275 18 rfl rfl rfl c6 ?_
    refine r_aload_n ok275 19 rfl rfl rfl ?_
    refine r_getF ok275 20 rfl rfl rfl rfl ?_
    refine r_iload ok275 21 rfl rfl rfl ?_
    refine r_iconst (v := 1) ok275 22 rfl rfl rfl ?_
    refine r_isub ok275 23 rfl rfl ?_
    refine r_aload_n ok275 24 rfl rfl rfl ?_
    refine r_getF ok275 25 rfl rfl rfl rfl ?_
    refine r_iload ok275 26 rfl rfl rfl ?_
    obtain ⟨c7, h7⟩ := h6
    refine r_iald ok275 27 rfl rfl rfl c7 ?_
    obtain ⟨c8, h8⟩ := h7
    refine r_iast ok275 28 rfl rfl rfl c8 ?_
    refine r_aload_n ok275 29 rfl rfl rfl ?_
    refine r_getF ok275 30 rfl rfl rfl rfl ?_
    refine r_iload ok275 31 rfl rfl rfl ?_
    refine r_iconst (v := 1) ok275 32 rfl rfl rfl ?_
    refine r_isub ok275 33 rfl rfl ?_
    refine r_aload_n ok275 34 rfl rfl rfl ?_
    refine r_getF ok275 35 rfl rfl rfl rfl ?_
    refine r_iload ok275 36 rfl rfl rfl ?_
    obtain ⟨c9, h9⟩ := h8
    refine r_iald ok275 37 rfl rfl rfl c9 ?_
    obtain ⟨c10, h10⟩ := h9
    refine r_iast ok275 38 rfl rfl rfl c10 ?_
    refine r_iinc (v := x4 + 1) ok275 39 rfl rfl rfl rfl ?_
    refine r_goto ok275 40 rfl rfl ?_
    exact h10

theorem K275 {Θ : Th} {d : Nat} {σ : Mem} {Q : Po} {x1 : Int32} {x2 : Int32} {x3 : Int32} (h : G Θ d 275 0 [some (.ref 124), some (.int x1), some (.int x2), some (.int x3), none] [] σ Q) : Cm Θ d 275 [.ref 124, .int x1, .int x2, .int x3] σ Q :=
  C_of_G okM275 (Nat.le_of_ble_eq_true rfl) rfl h

-- 276: LikeYearsModel.turn(IZ)V
set_option maxRecDepth 100000 in
set_option maxHeartbeats 4000000 in
theorem B276_0 {Θ : Th} {d : Nat} {σ : Mem} {Q : Po} {x1 : Int32} {x2 : Int32} 
    (h : (vp_in x1 60 ∧ ((¬ (σ.1 174 x1.toNatClampNeg) = 0 → (vp_in x1 60 ∧ ((¬ (σ.1 174 x1.toNatClampNeg) = 1 → (vp_in x1 60 ∧ (vp_in (σ.1 175 x1.toNatClampNeg) 16 ∧ (vp_in x1 60 ∧ (vp_in x1 60 ∧ (vp_in (σ.1 175 x1.toNatClampNeg) 16 ∧ (vp_in x1 60 ∧ Q none (sI (sI σ 143 ((σ.1 175 x1.toNatClampNeg).toNatClampNeg) (σ.1 176 x1.toNatClampNeg)) 176 (x1.toNatClampNeg) (σ.1 143 (σ.1 175 x1.toNatClampNeg).toNatClampNeg))))))))) ∧ ((σ.1 174 x1.toNatClampNeg) = 1 → (vp_in x1 60 ∧ (vp_in x1 60 ∧ (vp_in (σ.1 175 x1.toNatClampNeg) 6 ∧ ((¬ (σ.1 147 (σ.1 175 x1.toNatClampNeg).toNatClampNeg) = 0 → (vp_in (σ.1 175 x1.toNatClampNeg) 6 ∧ Q none (sI σ 147 ((σ.1 175 x1.toNatClampNeg).toNatClampNeg) (vp_nar .boolean 0)))) ∧ ((σ.1 147 (σ.1 175 x1.toNatClampNeg).toNatClampNeg) = 0 → (vp_in (σ.1 175 x1.toNatClampNeg) 6 ∧ Q none (sI σ 147 ((σ.1 175 x1.toNatClampNeg).toNatClampNeg) (vp_nar .boolean 1)))))))))))) ∧ ((σ.1 174 x1.toNatClampNeg) = 0 → ((x2 = 0 → Q none (sI σ 124 38 ((σ.1 124 38) + (-1)))) ∧ (¬ x2 = 0 → Q none (sI σ 124 38 ((σ.1 124 38) + 1)))))))) :
    G Θ d 276 0 [some (.ref 124), some (.int x1), some (.int x2), none] [] σ Q := by
  refine r_aload_n ok276 0 rfl rfl rfl ?_
  refine r_getF ok276 1 rfl rfl rfl rfl ?_
  refine r_iload_n ok276 2 rfl rfl rfl ?_
  obtain ⟨c1, h1⟩ := h
  refine r_iald ok276 3 rfl rfl rfl c1 ?_
  refine r_if_ne ok276 4 rfl rfl (fun c2 => ?_) (fun c2 => ?_)
  · have h2 := h1.1 c2
    refine r_aload_n ok276 16 rfl rfl rfl ?_
    refine r_getF ok276 17 rfl rfl rfl rfl ?_
    refine r_iload_n ok276 18 rfl rfl rfl ?_
    obtain ⟨c3, h3⟩ := h2
    refine r_iald ok276 19 rfl rfl rfl c3 ?_
    refine r_iconst (v := 1) ok276 20 rfl rfl rfl ?_
    refine r_icmp_ne ok276 21 rfl rfl (fun c4 => ?_) (fun c4 => ?_)
    · have h4 := h3.1 c4
      refine r_aload_n ok276 41 rfl rfl rfl ?_
      refine r_getF ok276 42 rfl rfl rfl rfl ?_
      refine r_aload_n ok276 43 rfl rfl rfl ?_
      refine r_getF ok276 44 rfl rfl rfl rfl ?_
      refine r_iload_n ok276 45 rfl rfl rfl ?_
      obtain ⟨c5, h5⟩ := h4
      refine r_iald ok276 46 rfl rfl rfl c5 ?_
      obtain ⟨c6, h6⟩ := h5
      refine r_iald ok276 47 rfl rfl rfl c6 ?_
      refine r_istore_n ok276 48 rfl rfl ?_
      refine r_aload_n ok276 49 rfl rfl rfl ?_
      refine r_getF ok276 50 rfl rfl rfl rfl ?_
      refine r_aload_n ok276 51 rfl rfl rfl ?_
      refine r_getF ok276 52 rfl rfl rfl rfl ?_
      refine r_iload_n ok276 53 rfl rfl rfl ?_
      obtain ⟨c7, h7⟩ := h6
      refine r_iald ok276 54 rfl rfl rfl c7 ?_
      refine r_aload_n ok276 55 rfl rfl rfl ?_
      refine r_getF ok276 56 rfl rfl rfl rfl ?_
      refine r_iload_n ok276 57 rfl rfl rfl ?_
      obtain ⟨c8, h8⟩ := h7
      refine r_iald ok276 58 rfl rfl rfl c8 ?_
      obtain ⟨c9, h9⟩ := h8
      refine r_iast ok276 59 rfl rfl rfl c9 ?_
      refine r_aload_n ok276 60 rfl rfl rfl ?_
      refine r_getF ok276 61 rfl rfl rfl rfl ?_
      refine r_iload_n ok276 62 rfl rfl rfl ?_
      refine r_iload_n ok276 63 rfl rfl rfl ?_
      obtain ⟨c10, h10⟩ := h9
      refine r_iast ok276 64 rfl rfl rfl c10 ?_
      exact r_ret ok276 65 rfl rfl rfl h10
    · have h4 := h3.2 c4
      refine r_aload_n ok276 22 rfl rfl rfl ?_
      refine r_getF ok276 23 rfl rfl rfl rfl ?_
      refine r_aload_n ok276 24 rfl rfl rfl ?_
      refine r_getF ok276 25 rfl rfl rfl rfl ?_
      refine r_iload_n ok276 26 rfl rfl rfl ?_
      obtain ⟨c11, h11⟩ := h4
      refine r_iald ok276 27 rfl rfl rfl c11 ?_
      refine r_aload_n ok276 28 rfl rfl rfl ?_
      refine r_getF ok276 29 rfl rfl rfl rfl ?_
      refine r_aload_n ok276 30 rfl rfl rfl ?_
      refine r_getF ok276 31 rfl rfl rfl rfl ?_
      refine r_iload_n ok276 32 rfl rfl rfl ?_
      obtain ⟨c12, h12⟩ := h11
      refine r_iald ok276 33 rfl rfl rfl c12 ?_
      obtain ⟨c13, h13⟩ := h12
      refine r_zald ok276 34 rfl rfl rfl c13 ?_
      refine r_if_ne ok276 35 rfl rfl (fun c14 => ?_) (fun c14 => ?_)
      · have h14 := h13.1 c14
        refine r_iconst (v := 0) ok276 38 rfl rfl rfl ?_
        obtain ⟨c15, h15⟩ := h14
        refine r_zast ok276 39 rfl rfl rfl c15 ?_
        refine r_goto ok276 40 rfl rfl ?_
        exact r_ret ok276 65 rfl rfl rfl h15
      · have h14 := h13.2 c14
        refine r_iconst (v := 1) ok276 36 rfl rfl rfl ?_
        refine r_goto ok276 37 rfl rfl ?_
        obtain ⟨c16, h16⟩ := h14
        refine r_zast ok276 39 rfl rfl rfl c16 ?_
        refine r_goto ok276 40 rfl rfl ?_
        exact r_ret ok276 65 rfl rfl rfl h16
  · have h2 := h1.2 c2
    refine r_aload_n ok276 5 rfl rfl rfl ?_
    refine r_dup ok276 6 rfl rfl rfl ?_
    refine r_getI ok276 7 rfl rfl rfl rfl ?_
    refine r_iload_n ok276 8 rfl rfl rfl ?_
    refine r_if_eq ok276 9 rfl rfl (fun c17 => ?_) (fun c17 => ?_)
    · have h17 := h2.1 c17
      refine r_iconst (v := (-1)) ok276 12 rfl rfl rfl ?_
      refine r_iadd ok276 13 rfl rfl ?_
      refine r_putI ok276 14 rfl rfl rfl rfl ?_
      refine r_goto ok276 15 rfl rfl ?_
      exact r_ret ok276 65 rfl rfl rfl h17
    · have h17 := h2.2 c17
      refine r_iconst (v := 1) ok276 10 rfl rfl rfl ?_
      refine r_goto ok276 11 rfl rfl ?_
      refine r_iadd ok276 13 rfl rfl ?_
      refine r_putI ok276 14 rfl rfl rfl rfl ?_
      refine r_goto ok276 15 rfl rfl ?_
      exact r_ret ok276 65 rfl rfl rfl h17

theorem K276 {Θ : Th} {d : Nat} {σ : Mem} {Q : Po} {x1 : Int32} {x2 : Int32} (h : G Θ d 276 0 [some (.ref 124), some (.int x1), some (.int x2), none] [] σ Q) : Cm Θ d 276 [.ref 124, .int x1, .int x2] σ Q :=
  C_of_G okM276 (Nat.le_of_ble_eq_true rfl) rfl h

-- 277: LikeYearsModel.come(IIII)I
set_option maxRecDepth 100000 in
set_option maxHeartbeats 4000000 in
theorem B277_0 {Θ : Th} {d : Nat} {σ : Mem} {Q : Po} {x1 : Int32} {x2 : Int32} {x3 : Int32} {x4 : Int32} 
    (h : Ci Θ d 241 [.int x1] σ (fun v1 σ1 => ((v1 = 0 → Q (some (.int (-1))) σ1) ∧ (¬ v1 = 0 → ((x2 < 0 → Q (some (.int (-1))) σ1) ∧ (¬ x2 < 0 → ((99 < x2 → Q (some (.int (-1))) σ1) ∧ (¬ 99 < x2 → Ci Θ d 248 [.int x3] σ1 (fun v5 σ5 => ((v5 = 0 → Q (some (.int (-1))) σ5) ∧ (¬ v5 = 0 → ((x4 < 1 → Q (some (.int (-1))) σ5) ∧ (¬ x4 < 1 → ((4 < x4 → Q (some (.int (-1))) σ5) ∧ (¬ 4 < x4 → ((¬ (σ5.1 124 38) = 16 → G Θ (d + 1) 277 50 [some (.ref 124), some (.int x1), some (.int x2), some (.int x3), some (.int x4), some (.int 0)] [] σ5 Q) ∧ ((σ5.1 124 38) = 16 → Q (some (.int (-1))) σ5))))))))))))))))) :
    G Θ (d + 1) 277 0 [some (.ref 124), some (.int x1), some (.int x2), some (.int x3), some (.int x4), none] [] σ Q := by
  refine r_iload_n ok277 0 rfl rfl rfl ?_
  refine r_invSi (as := [.int x1]) (S := []) ok277 1 rfl rfl mf241 rfl (Nat.le_of_ble_eq_true rfl) rfl h (fun v1 σ1 h1 => ?_)
  refine r_if_eq ok277 2 rfl rfl (fun c2 => ?_) (fun c2 => ?_)
  · have h2 := h1.1 c2
    refine r_iconst (v := (-1)) ok277 21 rfl rfl rfl ?_
    exact r_iret ok277 22 rfl rfl rfl h2
  · have h2 := h1.2 c2
    refine r_iload_n ok277 3 rfl rfl rfl ?_
    refine r_if_lt ok277 4 rfl rfl (fun c3 => ?_) (fun c3 => ?_)
    · have h3 := h2.1 c3
      refine r_iconst (v := (-1)) ok277 21 rfl rfl rfl ?_
      exact r_iret ok277 22 rfl rfl rfl h3
    · have h3 := h2.2 c3
      refine r_iload_n ok277 5 rfl rfl rfl ?_
      refine r_bipush (v := 99) ok277 6 rfl rfl rfl ?_
      refine r_icmp_gt ok277 7 rfl rfl (fun c4 => ?_) (fun c4 => ?_)
      · have h4 := h3.1 c4
        refine r_iconst (v := (-1)) ok277 21 rfl rfl rfl ?_
        exact r_iret ok277 22 rfl rfl rfl h4
      · have h4 := h3.2 c4
        refine r_iload_n ok277 8 rfl rfl rfl ?_
        refine r_invSi (as := [.int x3]) (S := []) ok277 9 rfl rfl mf248 rfl (Nat.le_of_ble_eq_true rfl) rfl h4 (fun v5 σ5 h5 => ?_)
        refine r_if_eq ok277 10 rfl rfl (fun c6 => ?_) (fun c6 => ?_)
        · have h6 := h5.1 c6
          refine r_iconst (v := (-1)) ok277 21 rfl rfl rfl ?_
          exact r_iret ok277 22 rfl rfl rfl h6
        · have h6 := h5.2 c6
          refine r_iload ok277 11 rfl rfl rfl ?_
          refine r_iconst (v := 1) ok277 12 rfl rfl rfl ?_
          refine r_icmp_lt ok277 13 rfl rfl (fun c7 => ?_) (fun c7 => ?_)
          · have h7 := h6.1 c7
            refine r_iconst (v := (-1)) ok277 21 rfl rfl rfl ?_
            exact r_iret ok277 22 rfl rfl rfl h7
          · have h7 := h6.2 c7
            refine r_iload ok277 14 rfl rfl rfl ?_
            refine r_iconst (v := 4) ok277 15 rfl rfl rfl ?_
            refine r_icmp_gt ok277 16 rfl rfl (fun c8 => ?_) (fun c8 => ?_)
            · have h8 := h7.1 c8
              refine r_iconst (v := (-1)) ok277 21 rfl rfl rfl ?_
              exact r_iret ok277 22 rfl rfl rfl h8
            · have h8 := h7.2 c8
              refine r_aload_n ok277 17 rfl rfl rfl ?_
              refine r_getI ok277 18 rfl rfl rfl rfl ?_
              refine r_bipush (v := 16) ok277 19 rfl rfl rfl ?_
              refine r_icmp_ne ok277 20 rfl rfl (fun c9 => ?_) (fun c9 => ?_)
              · have h9 := h8.1 c9
                refine r_iconst (v := 0) ok277 23 rfl rfl rfl ?_
                refine r_istore ok277 24 rfl rfl ?_
                exact h9
              · have h9 := h8.2 c9
                refine r_iconst (v := (-1)) ok277 21 rfl rfl rfl ?_
                exact r_iret ok277 22 rfl rfl rfl h9

set_option maxRecDepth 100000 in
set_option maxHeartbeats 4000000 in
theorem B277_50 {Θ : Th} {d : Nat} {σ : Mem} {Q : Po} {x1 : Int32} {x2 : Int32} {x3 : Int32} {x4 : Int32} {x5 : Int32} 
    (h : ((6 ≤ x5 → (vp_in (σ.1 124 38) 16 ∧ (vp_in ((sI σ 141 ((σ.1 124 38).toNatClampNeg) x1).1 124 38) 16 ∧ (vp_in ((sI (sI σ 141 ((σ.1 124 38).toNatClampNeg) x1) 142 (((sI σ 141 ((σ.1 124 38).toNatClampNeg) x1).1 124 38).toNatClampNeg) x2).1 124 38) 16 ∧ (vp_in ((sI (sI (sI σ 141 ((σ.1 124 38).toNatClampNeg) x1) 142 (((sI σ 141 ((σ.1 124 38).toNatClampNeg) x1).1 124 38).toNatClampNeg) x2) 143 (((sI (sI σ 141 ((σ.1 124 38).toNatClampNeg) x1) 142 (((sI σ 141 ((σ.1 124 38).toNatClampNeg) x1).1 124 38).toNatClampNeg) x2).1 124 38).toNatClampNeg) x3).1 124 38) 16 ∧ Cv Θ d 275 [.ref 124, .int 0, .int ((sI (sI (sI (sI σ 141 ((σ.1 124 38).toNatClampNeg) x1) 142 (((sI σ 141 ((σ.1 124 38).toNatClampNeg) x1).1 124 38).toNatClampNeg) x2) 143 (((sI (sI σ 141 ((σ.1 124 38).toNatClampNeg) x1) 142 (((sI σ 141 ((σ.1 124 38).toNatClampNeg) x1).1 124 38).toNatClampNeg) x2).1 124 38).toNatClampNeg) x3) 144 (((sI (sI (sI σ 141 ((σ.1 124 38).toNatClampNeg) x1) 142 (((sI σ 141 ((σ.1 124 38).toNatClampNeg) x1).1 124 38).toNatClampNeg) x2) 143 (((sI (sI σ 141 ((σ.1 124 38).toNatClampNeg) x1) 142 (((sI σ 141 ((σ.1 124 38).toNatClampNeg) x1).1 124 38).toNatClampNeg) x2).1 124 38).toNatClampNeg) x3).1 124 38).toNatClampNeg) x4).1 124 38), .int 0] (sI (sI (sI (sI σ 141 ((σ.1 124 38).toNatClampNeg) x1) 142 (((sI σ 141 ((σ.1 124 38).toNatClampNeg) x1).1 124 38).toNatClampNeg) x2) 143 (((sI (sI σ 141 ((σ.1 124 38).toNatClampNeg) x1) 142 (((sI σ 141 ((σ.1 124 38).toNatClampNeg) x1).1 124 38).toNatClampNeg) x2).1 124 38).toNatClampNeg) x3) 144 (((sI (sI (sI σ 141 ((σ.1 124 38).toNatClampNeg) x1) 142 (((sI σ 141 ((σ.1 124 38).toNatClampNeg) x1).1 124 38).toNatClampNeg) x2) 143 (((sI (sI σ 141 ((σ.1 124 38).toNatClampNeg) x1) 142 (((sI σ 141 ((σ.1 124 38).toNatClampNeg) x1).1 124 38).toNatClampNeg) x2).1 124 38).toNatClampNeg) x3).1 124 38).toNatClampNeg) x4) (fun σ6 => Q (some (.int (((sI σ6 124 38 ((σ6.1 124 38) + 1)).1 124 38) - 1))) (sI σ6 124 38 ((σ6.1 124 38) + 1)))))))) ∧ (¬ 6 ≤ x5 → (((σ.1 124 37) ≤ x5 → (vp_in ((6 * (σ.1 124 38)) + x5) 96 ∧ G Θ (d + 1) 277 50 [some (.ref 124), some (.int x1), some (.int x2), some (.int x3), some (.int x4), some (.int (x5 + 1))] [] (sI σ 140 (((6 * (σ.1 124 38)) + x5).toNatClampNeg) 0) Q)) ∧ (¬ (σ.1 124 37) ≤ x5 → (vp_in x5 6 ∧ (vp_in ((6 * (σ.1 124 38)) + x5) 96 ∧ G Θ (d + 1) 277 50 [some (.ref 124), some (.int x1), some (.int x2), some (.int x3), some (.int x4), some (.int (x5 + 1))] [] (sI σ 140 (((6 * (σ.1 124 38)) + x5).toNatClampNeg) (σ.1 173 x5.toNatClampNeg)) Q))))))) :
    G Θ (d + 1) 277 50 [some (.ref 124), some (.int x1), some (.int x2), some (.int x3), some (.int x4), some (.int x5)] [] σ Q := by
  refine r_iload ok277 25 rfl rfl rfl ?_
  refine r_bipush (v := 6) ok277 26 rfl rfl rfl ?_
  refine r_icmp_ge ok277 27 rfl rfl (fun c1 => ?_) (fun c1 => ?_)
  · have h1 := h.1 c1
    refine r_aload_n ok277 49 rfl rfl rfl ?_
    refine r_getF ok277 50 rfl rfl rfl rfl ?_
    refine r_aload_n ok277 51 rfl rfl rfl ?_
    refine r_getI ok277 52 rfl rfl rfl rfl ?_
    refine r_iload_n ok277 53 rfl rfl rfl ?_
    obtain ⟨c2, h2⟩ := h1
    refine r_iast ok277 54 rfl rfl rfl c2 ?_
    refine r_aload_n ok277 55 rfl rfl rfl ?_
    refine r_getF ok277 56 rfl rfl rfl rfl ?_
    refine r_aload_n ok277 57 rfl rfl rfl ?_
    refine r_getI ok277 58 rfl rfl rfl rfl ?_
    refine r_iload_n ok277 59 rfl rfl rfl ?_
    obtain ⟨c3, h3⟩ := h2
    refine r_iast ok277 60 rfl rfl rfl c3 ?_
    refine r_aload_n ok277 61 rfl rfl rfl ?_
    refine r_getF ok277 62 rfl rfl rfl rfl ?_
    refine r_aload_n ok277 63 rfl rfl rfl ?_
    refine r_getI ok277 64 rfl rfl rfl rfl ?_
    refine r_iload_n ok277 65 rfl rfl rfl ?_
    obtain ⟨c4, h4⟩ := h3
    refine r_iast ok277 66 rfl rfl rfl c4 ?_
    refine r_aload_n ok277 67 rfl rfl rfl ?_
    refine r_getF ok277 68 rfl rfl rfl rfl ?_
    refine r_aload_n ok277 69 rfl rfl rfl ?_
    refine r_getI ok277 70 rfl rfl rfl rfl ?_
    refine r_iload ok277 71 rfl rfl rfl ?_
    obtain ⟨c5, h5⟩ := h4
    refine r_iast ok277 72 rfl rfl rfl c5 ?_
    refine r_aload_n ok277 73 rfl rfl rfl ?_
    refine r_iconst (v := 0) ok277 74 rfl rfl rfl ?_
    refine r_aload_n ok277 75 rfl rfl rfl ?_
    refine r_getI ok277 76 rfl rfl rfl rfl ?_
    refine r_iconst (v := 0) ok277 77 rfl rfl rfl ?_
    refine r_invVv (as := [.int 0, .int ((sI (sI (sI (sI σ 141 ((σ.1 124 38).toNatClampNeg) x1) 142 (((sI σ 141 ((σ.1 124 38).toNatClampNeg) x1).1 124 38).toNatClampNeg) x2) 143 (((sI (sI σ 141 ((σ.1 124 38).toNatClampNeg) x1) 142 (((sI σ 141 ((σ.1 124 38).toNatClampNeg) x1).1 124 38).toNatClampNeg) x2).1 124 38).toNatClampNeg) x3) 144 (((sI (sI (sI σ 141 ((σ.1 124 38).toNatClampNeg) x1) 142 (((sI σ 141 ((σ.1 124 38).toNatClampNeg) x1).1 124 38).toNatClampNeg) x2) 143 (((sI (sI σ 141 ((σ.1 124 38).toNatClampNeg) x1) 142 (((sI σ 141 ((σ.1 124 38).toNatClampNeg) x1).1 124 38).toNatClampNeg) x2).1 124 38).toNatClampNeg) x3).1 124 38).toNatClampNeg) x4).1 124 38), .int 0]) (S := []) ok277 78 rfl rfl mf275 rfl rfl (Nat.le_of_ble_eq_true rfl) rfl h5 (fun σ6 h6 => ?_)
    refine r_aload_n ok277 79 rfl rfl rfl ?_
    refine r_dup ok277 80 rfl rfl rfl ?_
    refine r_getI ok277 81 rfl rfl rfl rfl ?_
    refine r_iconst (v := 1) ok277 82 rfl rfl rfl ?_
    refine r_iadd ok277 83 rfl rfl ?_
    refine r_putI ok277 84 rfl rfl rfl rfl ?_
    refine r_aload_n ok277 85 rfl rfl rfl ?_
    refine r_getI ok277 86 rfl rfl rfl rfl ?_
    refine r_iconst (v := 1) ok277 87 rfl rfl rfl ?_
    refine r_isub ok277 88 rfl rfl ?_
    exact r_iret ok277 89 rfl rfl rfl h6
  · have h1 := h.2 c1
    refine r_aload_n ok277 28 rfl rfl rfl ?_
    refine r_getF ok277 29 rfl rfl rfl rfl ?_
    refine r_bipush (v := 6) ok277 30 rfl rfl rfl ?_
    refine r_aload_n ok277 31 rfl rfl rfl ?_
    refine r_getI ok277 32 rfl rfl rfl rfl ?_
    refine r_imul ok277 33 rfl rfl ?_
    refine r_iload ok277 34 rfl rfl rfl ?_
    refine r_iadd ok277 35 rfl rfl ?_
    refine r_iload ok277 36 rfl rfl rfl ?_
    refine r_aload_n ok277 37 rfl rfl rfl ?_
    refine r_getI ok277 38 rfl rfl rfl rfl ?_
    refine r_icmp_ge ok277 39 rfl rfl (fun c7 => ?_) (fun c7 => ?_)
    · have h7 := h1.1 c7
      refine r_iconst (v := 0) ok277 45 rfl rfl rfl ?_
      obtain ⟨c8, h8⟩ := h7
      refine r_iast ok277 46 rfl rfl rfl c8 ?_
      refine r_iinc (v := x5 + 1) ok277 47 rfl rfl rfl rfl ?_
      refine r_goto ok277 48 rfl rfl ?_
      exact h8
    · have h7 := h1.2 c7
      refine r_aload_n ok277 40 rfl rfl rfl ?_
      refine r_getF ok277 41 rfl rfl rfl rfl ?_
      refine r_iload ok277 42 rfl rfl rfl ?_
      obtain ⟨c9, h9⟩ := h7
      refine r_iald ok277 43 rfl rfl rfl c9 ?_
      refine r_goto ok277 44 rfl rfl ?_
      obtain ⟨c10, h10⟩ := h9
      refine r_iast ok277 46 rfl rfl rfl c10 ?_
      refine r_iinc (v := x5 + 1) ok277 47 rfl rfl rfl rfl ?_
      refine r_goto ok277 48 rfl rfl ?_
      exact h10

theorem K277 {Θ : Th} {d : Nat} {σ : Mem} {Q : Po} {x1 : Int32} {x2 : Int32} {x3 : Int32} {x4 : Int32} (h : G Θ (d + 1) 277 0 [some (.ref 124), some (.int x1), some (.int x2), some (.int x3), some (.int x4), none] [] σ Q) : Cm Θ (d + 1) 277 [.ref 124, .int x1, .int x2, .int x3, .int x4] σ Q :=
  C_of_G okM277 (Nat.le_of_ble_eq_true rfl) rfl h

-- 278: LikeYearsModel.count(IZ)Z
set_option maxRecDepth 100000 in
set_option maxHeartbeats 4000000 in
theorem B278_0 {Θ : Th} {d : Nat} {σ : Mem} {Q : Po} {x1 : Int32} {x2 : Int32} 
    (h : Ci Θ d 201 [.ref 124, .int x1] σ (fun v1 σ1 => ((v1 = 0 → Q (some (.int 0)) σ1) ∧ (¬ v1 = 0 → (vp_in x1 6 ∧ ((¬ (σ1.1 147 x1.toNatClampNeg) = x2 → Ci Θ d 196 [.ref 124] σ1 (fun v5 σ5 => Ci Θ d 199 [.ref 124, .int (v5 ^^^ ((1 : Int32) <<< (x1 &&& 31)))] σ5 (fun v6 σ6 => ((v6 = 0 → Cv Θ d 275 [.ref 124, .int 1, .int x1, .int 0] σ6 (fun σ8 => (vp_in x1 6 ∧ Q (some (.int 1)) (sI σ8 147 (x1.toNatClampNeg) (vp_nar .boolean x2))))) ∧ (¬ v6 = 0 → Q (some (.int 0)) σ6))))) ∧ ((σ1.1 147 x1.toNatClampNeg) = x2 → Q (some (.int 0)) σ1))))))) :
    G Θ (d + 1) 278 0 [some (.ref 124), some (.int x1), some (.int x2), none] [] σ Q := by
  refine r_aload_n ok278 0 rfl rfl rfl ?_
  refine r_iload_n ok278 1 rfl rfl rfl ?_
  refine r_invVi (as := [.int x1]) (S := []) ok278 2 rfl rfl mf201 rfl rfl (Nat.le_of_ble_eq_true rfl) rfl h (fun v1 σ1 h1 => ?_)
  refine r_if_eq ok278 3 rfl rfl (fun c2 => ?_) (fun c2 => ?_)
  · have h2 := h1.1 c2
    refine r_iconst (v := 0) ok278 10 rfl rfl rfl ?_
    exact r_zret ok278 11 rfl rfl rfl (Or.inl rfl) h2
  · have h2 := h1.2 c2
    refine r_aload_n ok278 4 rfl rfl rfl ?_
    refine r_getF ok278 5 rfl rfl rfl rfl ?_
    refine r_iload_n ok278 6 rfl rfl rfl ?_
    obtain ⟨c3, h3⟩ := h2
    refine r_zald ok278 7 rfl rfl rfl c3 ?_
    refine r_iload_n ok278 8 rfl rfl rfl ?_
    refine r_icmp_ne ok278 9 rfl rfl (fun c4 => ?_) (fun c4 => ?_)
    · have h4 := h3.1 c4
      refine r_aload_n ok278 12 rfl rfl rfl ?_
      refine r_invVi (as := []) (S := []) ok278 13 rfl rfl mf196 rfl rfl (Nat.le_of_ble_eq_true rfl) rfl h4 (fun v5 σ5 h5 => ?_)
      refine r_iconst (v := 1) ok278 14 rfl rfl rfl ?_
      refine r_iload_n ok278 15 rfl rfl rfl ?_
      refine r_ishl ok278 16 rfl rfl ?_
      refine r_ixor ok278 17 rfl rfl ?_
      refine r_istore_n ok278 18 rfl rfl ?_
      refine r_aload_n ok278 19 rfl rfl rfl ?_
      refine r_iload_n ok278 20 rfl rfl rfl ?_
      refine r_invVi (as := [.int (v5 ^^^ ((1 : Int32) <<< (x1 &&& 31)))]) (S := []) ok278 21 rfl rfl mf199 rfl rfl (Nat.le_of_ble_eq_true rfl) rfl h5 (fun v6 σ6 h6 => ?_)
      refine r_if_eq ok278 22 rfl rfl (fun c7 => ?_) (fun c7 => ?_)
      · have h7 := h6.1 c7
        refine r_aload_n ok278 25 rfl rfl rfl ?_
        refine r_iconst (v := 1) ok278 26 rfl rfl rfl ?_
        refine r_iload_n ok278 27 rfl rfl rfl ?_
        refine r_iconst (v := 0) ok278 28 rfl rfl rfl ?_
        refine r_invVv (as := [.int 1, .int x1, .int 0]) (S := []) ok278 29 rfl rfl mf275 rfl rfl (Nat.le_of_ble_eq_true rfl) rfl h7 (fun σ8 h8 => ?_)
        refine r_aload_n ok278 30 rfl rfl rfl ?_
        refine r_getF ok278 31 rfl rfl rfl rfl ?_
        refine r_iload_n ok278 32 rfl rfl rfl ?_
        refine r_iload_n ok278 33 rfl rfl rfl ?_
        obtain ⟨c9, h9⟩ := h8
        refine r_zast ok278 34 rfl rfl rfl c9 ?_
        refine r_iconst (v := 1) ok278 35 rfl rfl rfl ?_
        exact r_zret ok278 36 rfl rfl rfl (Or.inr rfl) h9
      · have h7 := h6.2 c7
        refine r_iconst (v := 0) ok278 23 rfl rfl rfl ?_
        exact r_zret ok278 24 rfl rfl rfl (Or.inl rfl) h7
    · have h4 := h3.2 c4
      refine r_iconst (v := 0) ok278 10 rfl rfl rfl ?_
      exact r_zret ok278 11 rfl rfl rfl (Or.inl rfl) h4

theorem K278 {Θ : Th} {d : Nat} {σ : Mem} {Q : Po} {x1 : Int32} {x2 : Int32} (h : G Θ (d + 1) 278 0 [some (.ref 124), some (.int x1), some (.int x2), none] [] σ Q) : Cm Θ (d + 1) 278 [.ref 124, .int x1, .int x2] σ Q :=
  C_of_G okM278 (Nat.le_of_ble_eq_true rfl) rfl h

-- 279: LikeYearsModel.give(II)Z
set_option maxRecDepth 100000 in
set_option maxHeartbeats 4000000 in
theorem B279_0 {Θ : Th} {d : Nat} {σ : Mem} {Q : Po} {x1 : Int32} {x2 : Int32} 
    (h : Ci Θ d 200 [.ref 124, .int x1] σ (fun v1 σ1 => ((v1 = 0 → Q (some (.int 0)) σ1) ∧ (¬ v1 = 0 → Ci Θ d 248 [.int x2] σ1 (fun v3 σ3 => ((v3 = 0 → Q (some (.int 0)) σ3) ∧ (¬ v3 = 0 → (vp_in x1 16 ∧ ((¬ (σ3.1 143 x1.toNatClampNeg) = x2 → (vp_in x1 16 ∧ Cv Θ d 275 [.ref 124, .int 2, .int x1, .int (σ3.1 143 x1.toNatClampNeg)] σ3 (fun σ8 => (vp_in x1 16 ∧ Q (some (.int 1)) (sI σ8 143 (x1.toNatClampNeg) x2))))) ∧ ((σ3.1 143 x1.toNatClampNeg) = x2 → Q (some (.int 0)) σ3)))))))))) :
    G Θ (d + 1) 279 0 [some (.ref 124), some (.int x1), some (.int x2)] [] σ Q := by
  refine r_aload_n ok279 0 rfl rfl rfl ?_
  refine r_iload_n ok279 1 rfl rfl rfl ?_
  refine r_invVi (as := [.int x1]) (S := []) ok279 2 rfl rfl mf200 rfl rfl (Nat.le_of_ble_eq_true rfl) rfl h (fun v1 σ1 h1 => ?_)
  refine r_if_eq ok279 3 rfl rfl (fun c2 => ?_) (fun c2 => ?_)
  · have h2 := h1.1 c2
    refine r_iconst (v := 0) ok279 13 rfl rfl rfl ?_
    exact r_zret ok279 14 rfl rfl rfl (Or.inl rfl) h2
  · have h2 := h1.2 c2
    refine r_iload_n ok279 4 rfl rfl rfl ?_
    refine r_invSi (as := [.int x2]) (S := []) ok279 5 rfl rfl mf248 rfl (Nat.le_of_ble_eq_true rfl) rfl h2 (fun v3 σ3 h3 => ?_)
    refine r_if_eq ok279 6 rfl rfl (fun c4 => ?_) (fun c4 => ?_)
    · have h4 := h3.1 c4
      refine r_iconst (v := 0) ok279 13 rfl rfl rfl ?_
      exact r_zret ok279 14 rfl rfl rfl (Or.inl rfl) h4
    · have h4 := h3.2 c4
      refine r_aload_n ok279 7 rfl rfl rfl ?_
      refine r_getF ok279 8 rfl rfl rfl rfl ?_
      refine r_iload_n ok279 9 rfl rfl rfl ?_
      obtain ⟨c5, h5⟩ := h4
      refine r_iald ok279 10 rfl rfl rfl c5 ?_
      refine r_iload_n ok279 11 rfl rfl rfl ?_
      refine r_icmp_ne ok279 12 rfl rfl (fun c6 => ?_) (fun c6 => ?_)
      · have h6 := h5.1 c6
        refine r_aload_n ok279 15 rfl rfl rfl ?_
        refine r_iconst (v := 2) ok279 16 rfl rfl rfl ?_
        refine r_iload_n ok279 17 rfl rfl rfl ?_
        refine r_aload_n ok279 18 rfl rfl rfl ?_
        refine r_getF ok279 19 rfl rfl rfl rfl ?_
        refine r_iload_n ok279 20 rfl rfl rfl ?_
        obtain ⟨c7, h7⟩ := h6
        refine r_iald ok279 21 rfl rfl rfl c7 ?_
        refine r_invVv (as := [.int 2, .int x1, .int (σ3.1 143 x1.toNatClampNeg)]) (S := []) ok279 22 rfl rfl mf275 rfl rfl (Nat.le_of_ble_eq_true rfl) rfl h7 (fun σ8 h8 => ?_)
        refine r_aload_n ok279 23 rfl rfl rfl ?_
        refine r_getF ok279 24 rfl rfl rfl rfl ?_
        refine r_iload_n ok279 25 rfl rfl rfl ?_
        refine r_iload_n ok279 26 rfl rfl rfl ?_
        obtain ⟨c9, h9⟩ := h8
        refine r_iast ok279 27 rfl rfl rfl c9 ?_
        refine r_iconst (v := 1) ok279 28 rfl rfl rfl ?_
        exact r_zret ok279 29 rfl rfl rfl (Or.inr rfl) h9
      · have h6 := h5.2 c6
        refine r_iconst (v := 0) ok279 13 rfl rfl rfl ?_
        exact r_zret ok279 14 rfl rfl rfl (Or.inl rfl) h6

theorem K279 {Θ : Th} {d : Nat} {σ : Mem} {Q : Po} {x1 : Int32} {x2 : Int32} (h : G Θ (d + 1) 279 0 [some (.ref 124), some (.int x1), some (.int x2)] [] σ Q) : Cm Θ (d + 1) 279 [.ref 124, .int x1, .int x2] σ Q :=
  C_of_G okM279 (Nat.le_of_ble_eq_true rfl) rfl h

-- 280: LikeYearsModel.undo()Z
set_option maxRecDepth 100000 in
set_option maxHeartbeats 4000000 in
theorem B280_0 {Θ : Th} {d : Nat} {σ : Mem} {Q : Po} 
    (h : ((¬ (σ.1 124 78) = 0 → Cv Θ d 276 [.ref 124, .int ((sI (sI σ 124 78 ((σ.1 124 78) - 1)) 124 79 (((sI σ 124 78 ((σ.1 124 78) - 1)).1 124 79) + 1)).1 124 78), .int 0] (sI (sI σ 124 78 ((σ.1 124 78) - 1)) 124 79 (((sI σ 124 78 ((σ.1 124 78) - 1)).1 124 79) + 1)) (fun σ2 => Q (some (.int 1)) σ2)) ∧ ((σ.1 124 78) = 0 → Q (some (.int 0)) σ))) :
    G Θ (d + 1) 280 0 [some (.ref 124)] [] σ Q := by
  refine r_aload_n ok280 0 rfl rfl rfl ?_
  refine r_getI ok280 1 rfl rfl rfl rfl ?_
  refine r_if_ne ok280 2 rfl rfl (fun c1 => ?_) (fun c1 => ?_)
  · have h1 := h.1 c1
    refine r_aload_n ok280 5 rfl rfl rfl ?_
    refine r_dup ok280 6 rfl rfl rfl ?_
    refine r_getI ok280 7 rfl rfl rfl rfl ?_
    refine r_iconst (v := 1) ok280 8 rfl rfl rfl ?_
    refine r_isub ok280 9 rfl rfl ?_
    refine r_putI ok280 10 rfl rfl rfl rfl ?_
    refine r_aload_n ok280 11 rfl rfl rfl ?_
    refine r_dup ok280 12 rfl rfl rfl ?_
    refine r_getI ok280 13 rfl rfl rfl rfl ?_
    refine r_iconst (v := 1) ok280 14 rfl rfl rfl ?_
    refine r_iadd ok280 15 rfl rfl ?_
    refine r_putI ok280 16 rfl rfl rfl rfl ?_
    refine r_aload_n ok280 17 rfl rfl rfl ?_
    refine r_aload_n ok280 18 rfl rfl rfl ?_
    refine r_getI ok280 19 rfl rfl rfl rfl ?_
    refine r_iconst (v := 0) ok280 20 rfl rfl rfl ?_
    refine r_invVv (as := [.int ((sI (sI σ 124 78 ((σ.1 124 78) - 1)) 124 79 (((sI σ 124 78 ((σ.1 124 78) - 1)).1 124 79) + 1)).1 124 78), .int 0]) (S := []) ok280 21 rfl rfl mf276 rfl rfl (Nat.le_of_ble_eq_true rfl) rfl h1 (fun σ2 h2 => ?_)
    refine r_iconst (v := 1) ok280 22 rfl rfl rfl ?_
    exact r_zret ok280 23 rfl rfl rfl (Or.inr rfl) h2
  · have h1 := h.2 c1
    refine r_iconst (v := 0) ok280 3 rfl rfl rfl ?_
    exact r_zret ok280 4 rfl rfl rfl (Or.inl rfl) h1

theorem K280 {Θ : Th} {d : Nat} {σ : Mem} {Q : Po} (h : G Θ (d + 1) 280 0 [some (.ref 124)] [] σ Q) : Cm Θ (d + 1) 280 [.ref 124] σ Q :=
  C_of_G okM280 (Nat.le_of_ble_eq_true rfl) rfl h

-- 281: LikeYearsModel.redo()Z
set_option maxRecDepth 100000 in
set_option maxHeartbeats 4000000 in
theorem B281_0 {Θ : Th} {d : Nat} {σ : Mem} {Q : Po} 
    (h : ((¬ (σ.1 124 79) = 0 → Cv Θ d 276 [.ref 124, .int (σ.1 124 78), .int 1] σ (fun σ2 => Q (some (.int 1)) (sI (sI σ2 124 78 ((σ2.1 124 78) + 1)) 124 79 (((sI σ2 124 78 ((σ2.1 124 78) + 1)).1 124 79) - 1)))) ∧ ((σ.1 124 79) = 0 → Q (some (.int 0)) σ))) :
    G Θ (d + 1) 281 0 [some (.ref 124)] [] σ Q := by
  refine r_aload_n ok281 0 rfl rfl rfl ?_
  refine r_getI ok281 1 rfl rfl rfl rfl ?_
  refine r_if_ne ok281 2 rfl rfl (fun c1 => ?_) (fun c1 => ?_)
  · have h1 := h.1 c1
    refine r_aload_n ok281 5 rfl rfl rfl ?_
    refine r_aload_n ok281 6 rfl rfl rfl ?_
    refine r_getI ok281 7 rfl rfl rfl rfl ?_
    refine r_iconst (v := 1) ok281 8 rfl rfl rfl ?_
    refine r_invVv (as := [.int (σ.1 124 78), .int 1]) (S := []) ok281 9 rfl rfl mf276 rfl rfl (Nat.le_of_ble_eq_true rfl) rfl h1 (fun σ2 h2 => ?_)
    refine r_aload_n ok281 10 rfl rfl rfl ?_
    refine r_dup ok281 11 rfl rfl rfl ?_
    refine r_getI ok281 12 rfl rfl rfl rfl ?_
    refine r_iconst (v := 1) ok281 13 rfl rfl rfl ?_
    refine r_iadd ok281 14 rfl rfl ?_
    refine r_putI ok281 15 rfl rfl rfl rfl ?_
    refine r_aload_n ok281 16 rfl rfl rfl ?_
    refine r_dup ok281 17 rfl rfl rfl ?_
    refine r_getI ok281 18 rfl rfl rfl rfl ?_
    refine r_iconst (v := 1) ok281 19 rfl rfl rfl ?_
    refine r_isub ok281 20 rfl rfl ?_
    refine r_putI ok281 21 rfl rfl rfl rfl ?_
    refine r_iconst (v := 1) ok281 22 rfl rfl rfl ?_
    exact r_zret ok281 23 rfl rfl rfl (Or.inr rfl) h2
  · have h1 := h.2 c1
    refine r_iconst (v := 0) ok281 3 rfl rfl rfl ?_
    exact r_zret ok281 4 rfl rfl rfl (Or.inl rfl) h1

theorem K281 {Θ : Th} {d : Nat} {σ : Mem} {Q : Po} (h : G Θ (d + 1) 281 0 [some (.ref 124)] [] σ Q) : Cm Θ (d + 1) 281 [.ref 124] σ Q :=
  C_of_G okM281 (Nat.le_of_ble_eq_true rfl) rfl h

-- 282: LikeYearsModel.isBox(I)Z
set_option maxRecDepth 100000 in
set_option maxHeartbeats 4000000 in
theorem B282_0 {Θ : Th} {d : Nat} {σ : Mem} {Q : Po} {x0 : Int32} 
    (h : ((x0 < 0 → Q (some (.int 0)) σ) ∧ (¬ x0 < 0 → ((3 ≤ x0 → Q (some (.int 0)) σ) ∧ (¬ 3 ≤ x0 → Q (some (.int 1)) σ))))) :
    G Θ d 282 0 [some (.int x0)] [] σ Q := by
  refine r_iload_n ok282 0 rfl rfl rfl ?_
  refine r_if_lt ok282 1 rfl rfl (fun c1 => ?_) (fun c1 => ?_)
  · have h1 := h.1 c1
    refine r_iconst (v := 0) ok282 7 rfl rfl rfl ?_
    exact r_zret ok282 8 rfl rfl rfl (Or.inl rfl) h1
  · have h1 := h.2 c1
    refine r_iload_n ok282 2 rfl rfl rfl ?_
    refine r_iconst (v := 3) ok282 3 rfl rfl rfl ?_
    refine r_icmp_ge ok282 4 rfl rfl (fun c2 => ?_) (fun c2 => ?_)
    · have h2 := h1.1 c2
      refine r_iconst (v := 0) ok282 7 rfl rfl rfl ?_
      exact r_zret ok282 8 rfl rfl rfl (Or.inl rfl) h2
    · have h2 := h1.2 c2
      refine r_iconst (v := 1) ok282 5 rfl rfl rfl ?_
      refine r_goto ok282 6 rfl rfl ?_
      exact r_zret ok282 8 rfl rfl rfl (Or.inr rfl) h2

theorem K282 {Θ : Th} {d : Nat} {σ : Mem} {Q : Po} {x0 : Int32} (h : G Θ d 282 0 [some (.int x0)] [] σ Q) : Cm Θ d 282 [.int x0] σ Q :=
  C_of_G okM282 (Nat.le_of_ble_eq_true rfl) rfl h

-- 283: LikeYearsModel.keep(I)I
set_option maxRecDepth 100000 in
set_option maxHeartbeats 4000000 in
theorem B283_0 {Θ : Th} {d : Nat} {σ : Mem} {Q : Po} {x1 : Int32} 
    (h : Ci Θ d 282 [.int x1] σ (fun v1 σ1 => ((¬ v1 = 0 → (vp_in x1 3 ∧ (vp_in x1 3 ∧ G Θ (d + 1) 283 28 [some (.ref 124), some (.int x1), some (.int 0)] [] (sI (sI σ1 177 (x1.toNatClampNeg) (vp_nar .boolean 1)) 179 (x1.toNatClampNeg) ((sI σ1 177 (x1.toNatClampNeg) (vp_nar .boolean 1)).1 124 38)) Q))) ∧ (v1 = 0 → Q (some (.int (-1))) σ1)))) :
    G Θ (d + 1) 283 0 [some (.ref 124), some (.int x1), none] [] σ Q := by
  refine r_iload_n ok283 0 rfl rfl rfl ?_
  refine r_invSi (as := [.int x1]) (S := []) ok283 1 rfl rfl mf282 rfl (Nat.le_of_ble_eq_true rfl) rfl h (fun v1 σ1 h1 => ?_)
  refine r_if_ne ok283 2 rfl rfl (fun c2 => ?_) (fun c2 => ?_)
  · have h2 := h1.1 c2
    refine r_aload_n ok283 5 rfl rfl rfl ?_
    refine r_getF ok283 6 rfl rfl rfl rfl ?_
    refine r_iload_n ok283 7 rfl rfl rfl ?_
    refine r_iconst (v := 1) ok283 8 rfl rfl rfl ?_
    obtain ⟨c3, h3⟩ := h2
    refine r_zast ok283 9 rfl rfl rfl c3 ?_
    refine r_aload_n ok283 10 rfl rfl rfl ?_
    refine r_getF ok283 11 rfl rfl rfl rfl ?_
    refine r_iload_n ok283 12 rfl rfl rfl ?_
    refine r_aload_n ok283 13 rfl rfl rfl ?_
    refine r_getI ok283 14 rfl rfl rfl rfl ?_
    obtain ⟨c4, h4⟩ := h3
    refine r_iast ok283 15 rfl rfl rfl c4 ?_
    refine r_iconst (v := 0) ok283 16 rfl rfl rfl ?_
    refine r_istore_n ok283 17 rfl rfl ?_
    exact h4
  · have h2 := h1.2 c2
    refine r_iconst (v := (-1)) ok283 3 rfl rfl rfl ?_
    exact r_iret ok283 4 rfl rfl rfl h2

set_option maxRecDepth 100000 in
set_option maxHeartbeats 4000000 in
theorem B283_28 {Θ : Th} {d : Nat} {σ : Mem} {Q : Po} {x1 : Int32} {x2 : Int32} 
    (h : ((96 ≤ x2 → G Θ (d + 1) 283 59 [some (.ref 124), some (.int x1), some (.int 0)] [] σ Q) ∧ (¬ 96 ≤ x2 → (vp_in x2 96 ∧ (vp_in ((96 * x1) + x2) 288 ∧ G Θ (d + 1) 283 28 [some (.ref 124), some (.int x1), some (.int (x2 + 1))] [] (sI σ 180 (((96 * x1) + x2).toNatClampNeg) (σ.1 140 x2.toNatClampNeg)) Q))))) :
    G Θ (d + 1) 283 28 [some (.ref 124), some (.int x1), some (.int x2)] [] σ Q := by
  refine r_iload_n ok283 18 rfl rfl rfl ?_
  refine r_bipush (v := 96) ok283 19 rfl rfl rfl ?_
  refine r_icmp_ge ok283 20 rfl rfl (fun c1 => ?_) (fun c1 => ?_)
  · have h1 := h.1 c1
    refine r_iconst (v := 0) ok283 35 rfl rfl rfl ?_
    refine r_istore_n ok283 36 rfl rfl ?_
    exact h1
  · have h1 := h.2 c1
    refine r_aload_n ok283 21 rfl rfl rfl ?_
    refine r_getF ok283 22 rfl rfl rfl rfl ?_
    refine r_bipush (v := 96) ok283 23 rfl rfl rfl ?_
    refine r_iload_n ok283 24 rfl rfl rfl ?_
    refine r_imul ok283 25 rfl rfl ?_
    refine r_iload_n ok283 26 rfl rfl rfl ?_
    refine r_iadd ok283 27 rfl rfl ?_
    refine r_aload_n ok283 28 rfl rfl rfl ?_
    refine r_getF ok283 29 rfl rfl rfl rfl ?_
    refine r_iload_n ok283 30 rfl rfl rfl ?_
    obtain ⟨c2, h2⟩ := h1
    refine r_iald ok283 31 rfl rfl rfl c2 ?_
    obtain ⟨c3, h3⟩ := h2
    refine r_iast ok283 32 rfl rfl rfl c3 ?_
    refine r_iinc (v := x2 + 1) ok283 33 rfl rfl rfl rfl ?_
    refine r_goto ok283 34 rfl rfl ?_
    exact h3

set_option maxRecDepth 100000 in
set_option maxHeartbeats 4000000 in
theorem B283_59 {Θ : Th} {d : Nat} {σ : Mem} {Q : Po} {x1 : Int32} {x2 : Int32} 
    (h : ((6 ≤ x2 → G Θ (d + 1) 283 90 [some (.ref 124), some (.int x1), some (.int 0)] [] σ Q) ∧ (¬ 6 ≤ x2 → (vp_in x2 6 ∧ (vp_in ((6 * x1) + x2) 18 ∧ G Θ (d + 1) 283 59 [some (.ref 124), some (.int x1), some (.int (x2 + 1))] [] (sI σ 178 (((6 * x1) + x2).toNatClampNeg) (vp_nar .boolean (σ.1 147 x2.toNatClampNeg))) Q))))) :
    G Θ (d + 1) 283 59 [some (.ref 124), some (.int x1), some (.int x2)] [] σ Q := by
  refine r_iload_n ok283 37 rfl rfl rfl ?_
  refine r_bipush (v := 6) ok283 38 rfl rfl rfl ?_
  refine r_icmp_ge ok283 39 rfl rfl (fun c1 => ?_) (fun c1 => ?_)
  · have h1 := h.1 c1
    refine r_iconst (v := 0) ok283 54 rfl rfl rfl ?_
    refine r_istore_n ok283 55 rfl rfl ?_
    exact h1
  · have h1 := h.2 c1
    refine r_aload_n ok283 40 rfl rfl rfl ?_
    refine r_getF ok283 41 rfl rfl rfl rfl ?_
    refine r_bipush (v := 6) ok283 42 rfl rfl rfl ?_
    refine r_iload_n ok283 43 rfl rfl rfl ?_
    refine r_imul ok283 44 rfl rfl ?_
    refine r_iload_n ok283 45 rfl rfl rfl ?_
    refine r_iadd ok283 46 rfl rfl ?_
    refine r_aload_n ok283 47 rfl rfl rfl ?_
    refine r_getF ok283 48 rfl rfl rfl rfl ?_
    refine r_iload_n ok283 49 rfl rfl rfl ?_
    obtain ⟨c2, h2⟩ := h1
    refine r_zald ok283 50 rfl rfl rfl c2 ?_
    obtain ⟨c3, h3⟩ := h2
    refine r_zast ok283 51 rfl rfl rfl c3 ?_
    refine r_iinc (v := x2 + 1) ok283 52 rfl rfl rfl rfl ?_
    refine r_goto ok283 53 rfl rfl ?_
    exact h3

set_option maxRecDepth 100000 in
set_option maxHeartbeats 4000000 in
theorem B283_90 {Θ : Th} {d : Nat} {σ : Mem} {Q : Po} {x1 : Int32} {x2 : Int32} 
    (h : ((16 ≤ x2 → Q (some (.int (σ.1 124 38))) σ) ∧ (¬ 16 ≤ x2 → (vp_in x2 16 ∧ (vp_in ((16 * x1) + x2) 48 ∧ (vp_in x2 16 ∧ (vp_in ((16 * x1) + x2) 48 ∧ (vp_in x2 16 ∧ (vp_in ((16 * x1) + x2) 48 ∧ (vp_in x2 16 ∧ (vp_in ((16 * x1) + x2) 48 ∧ G Θ (d + 1) 283 90 [some (.ref 124), some (.int x1), some (.int (x2 + 1))] [] (sI (sI (sI (sI σ 181 (((16 * x1) + x2).toNatClampNeg) (σ.1 141 x2.toNatClampNeg)) 182 (((16 * x1) + x2).toNatClampNeg) ((sI σ 181 (((16 * x1) + x2).toNatClampNeg) (σ.1 141 x2.toNatClampNeg)).1 142 x2.toNatClampNeg)) 183 (((16 * x1) + x2).toNatClampNeg) ((sI (sI σ 181 (((16 * x1) + x2).toNatClampNeg) (σ.1 141 x2.toNatClampNeg)) 182 (((16 * x1) + x2).toNatClampNeg) ((sI σ 181 (((16 * x1) + x2).toNatClampNeg) (σ.1 141 x2.toNatClampNeg)).1 142 x2.toNatClampNeg)).1 143 x2.toNatClampNeg)) 184 (((16 * x1) + x2).toNatClampNeg) ((sI (sI (sI σ 181 (((16 * x1) + x2).toNatClampNeg) (σ.1 141 x2.toNatClampNeg)) 182 (((16 * x1) + x2).toNatClampNeg) ((sI σ 181 (((16 * x1) + x2).toNatClampNeg) (σ.1 141 x2.toNatClampNeg)).1 142 x2.toNatClampNeg)) 183 (((16 * x1) + x2).toNatClampNeg) ((sI (sI σ 181 (((16 * x1) + x2).toNatClampNeg) (σ.1 141 x2.toNatClampNeg)) 182 (((16 * x1) + x2).toNatClampNeg) ((sI σ 181 (((16 * x1) + x2).toNatClampNeg) (σ.1 141 x2.toNatClampNeg)).1 142 x2.toNatClampNeg)).1 143 x2.toNatClampNeg)).1 144 x2.toNatClampNeg)) Q))))))))))) :
    G Θ (d + 1) 283 90 [some (.ref 124), some (.int x1), some (.int x2)] [] σ Q := by
  refine r_iload_n ok283 56 rfl rfl rfl ?_
  refine r_bipush (v := 16) ok283 57 rfl rfl rfl ?_
  refine r_icmp_ge ok283 58 rfl rfl (fun c1 => ?_) (fun c1 => ?_)
  · have h1 := h.1 c1
    refine r_aload_n ok283 109 rfl rfl rfl ?_
    refine r_getI ok283 110 rfl rfl rfl rfl ?_
    exact r_iret ok283 111 rfl rfl rfl h1
  · have h1 := h.2 c1
    refine r_aload_n ok283 59 rfl rfl rfl ?_
    refine r_getF ok283 60 rfl rfl rfl rfl ?_
    refine r_bipush (v := 16) ok283 61 rfl rfl rfl ?_
    refine r_iload_n ok283 62 rfl rfl rfl ?_
    refine r_imul ok283 63 rfl rfl ?_
    refine r_iload_n ok283 64 rfl rfl rfl ?_
    refine r_iadd ok283 65 rfl rfl ?_
    refine r_aload_n ok283 66 rfl rfl rfl ?_
    refine r_getF ok283 67 rfl rfl rfl rfl ?_
    refine r_iload_n ok283 68 rfl rfl rfl ?_
    obtain ⟨c2, h2⟩ := h1
    refine r_iald ok283 69 rfl rfl rfl c2 ?_
    obtain ⟨c3, h3⟩ := h2
    refine r_iast ok283 70 rfl rfl rfl c3 ?_
    refine r_aload_n ok283 71 rfl rfl rfl ?_
    refine r_getF ok283 72 rfl rfl rfl rfl ?_
    refine r_bipush (v := 16) ok283 73 rfl rfl rfl ?_
    refine r_iload_n ok283 74 rfl rfl rfl ?_
    refine r_imul ok283 75 rfl rfl ?_
    refine r_iload_n ok283 76 rfl rfl rfl ?_
    refine r_iadd ok283 77 rfl rfl ?_
    refine r_aload_n ok283 78 rfl rfl rfl ?_
    refine r_getF ok283 79 rfl rfl rfl rfl ?_
    refine r_iload_n ok283 80 rfl rfl rfl ?_
    obtain ⟨c4, h4⟩ := h3
    refine r_iald ok283 81 rfl rfl rfl c4 ?_
    obtain ⟨c5, h5⟩ := h4
    refine r_iast ok283 82 rfl rfl rfl c5 ?_
    refine r_aload_n ok283 83 rfl rfl rfl ?_
    refine r_getF ok283 84 rfl rfl rfl rfl ?_
    refine r_bipush (v := 16) ok283 85 rfl rfl rfl ?_
    refine r_iload_n ok283 86 rfl rfl rfl ?_
    refine r_imul ok283 87 rfl rfl ?_
    refine r_iload_n ok283 88 rfl rfl rfl ?_
    refine r_iadd ok283 89 rfl rfl ?_
    refine r_aload_n ok283 90 rfl rfl rfl ?_
    refine r_getF ok283 91 rfl rfl rfl rfl ?_
    refine r_iload_n ok283 92 rfl rfl rfl ?_
    obtain ⟨c6, h6⟩ := h5
    refine r_iald ok283 93 rfl rfl rfl c6 ?_
    obtain ⟨c7, h7⟩ := h6
    refine r_iast ok283 94 rfl rfl rfl c7 ?_
    refine r_aload_n ok283 95 rfl rfl rfl ?_
    refine r_getF ok283 96 rfl rfl rfl rfl ?_
    refine r_bipush (v := 16) ok283 97 rfl rfl rfl ?_
    refine r_iload_n ok283 98 rfl rfl rfl ?_
    refine r_imul ok283 99 rfl rfl ?_
    refine r_iload_n ok283 100 rfl rfl rfl ?_
    refine r_iadd ok283 101 rfl rfl ?_
    refine r_aload_n ok283 102 rfl rfl rfl ?_
    refine r_getF ok283 103 rfl rfl rfl rfl ?_
    refine r_iload_n ok283 104 rfl rfl rfl ?_
    obtain ⟨c8, h8⟩ := h7
    refine r_iald ok283 105 rfl rfl rfl c8 ?_
    obtain ⟨c9, h9⟩ := h8
    refine r_iast ok283 106 rfl rfl rfl c9 ?_
    refine r_iinc (v := x2 + 1) ok283 107 rfl rfl rfl rfl ?_
    refine r_goto ok283 108 rfl rfl ?_
    exact h9

theorem K283 {Θ : Th} {d : Nat} {σ : Mem} {Q : Po} {x1 : Int32} (h : G Θ (d + 1) 283 0 [some (.ref 124), some (.int x1), none] [] σ Q) : Cm Θ (d + 1) 283 [.ref 124, .int x1] σ Q :=
  C_of_G okM283 (Nat.le_of_ble_eq_true rfl) rfl h

-- 284: LikeYearsModel.back(I)I
set_option maxRecDepth 100000 in
set_option maxHeartbeats 4000000 in
theorem B284_0 {Θ : Th} {d : Nat} {σ : Mem} {Q : Po} {x1 : Int32} 
    (h : Ci Θ d 282 [.int x1] σ (fun v1 σ1 => ((v1 = 0 → Q (some (.int (-1))) σ1) ∧ (¬ v1 = 0 → (vp_in x1 3 ∧ ((¬ (σ1.1 177 x1.toNatClampNeg) = 0 → (vp_in x1 3 ∧ G Θ (d + 1) 284 30 [some (.ref 124), some (.int x1), some (.int 0)] [] (sI σ1 124 38 (σ1.1 179 x1.toNatClampNeg)) Q)) ∧ ((σ1.1 177 x1.toNatClampNeg) = 0 → Q (some (.int (-1))) σ1))))))) :
    G Θ (d + 1) 284 0 [some (.ref 124), some (.int x1), none] [] σ Q := by
  refine r_iload_n ok284 0 rfl rfl rfl ?_
  refine r_invSi (as := [.int x1]) (S := []) ok284 1 rfl rfl mf282 rfl (Nat.le_of_ble_eq_true rfl) rfl h (fun v1 σ1 h1 => ?_)
  refine r_if_eq ok284 2 rfl rfl (fun c2 => ?_) (fun c2 => ?_)
  · have h2 := h1.1 c2
    refine r_iconst (v := (-1)) ok284 8 rfl rfl rfl ?_
    exact r_iret ok284 9 rfl rfl rfl h2
  · have h2 := h1.2 c2
    refine r_aload_n ok284 3 rfl rfl rfl ?_
    refine r_getF ok284 4 rfl rfl rfl rfl ?_
    refine r_iload_n ok284 5 rfl rfl rfl ?_
    obtain ⟨c3, h3⟩ := h2
    refine r_zald ok284 6 rfl rfl rfl c3 ?_
    refine r_if_ne ok284 7 rfl rfl (fun c4 => ?_) (fun c4 => ?_)
    · have h4 := h3.1 c4
      refine r_aload_n ok284 10 rfl rfl rfl ?_
      refine r_aload_n ok284 11 rfl rfl rfl ?_
      refine r_getF ok284 12 rfl rfl rfl rfl ?_
      refine r_iload_n ok284 13 rfl rfl rfl ?_
      obtain ⟨c5, h5⟩ := h4
      refine r_iald ok284 14 rfl rfl rfl c5 ?_
      refine r_putI ok284 15 rfl rfl rfl rfl ?_
      refine r_iconst (v := 0) ok284 16 rfl rfl rfl ?_
      refine r_istore_n ok284 17 rfl rfl ?_
      exact h5
    · have h4 := h3.2 c4
      refine r_iconst (v := (-1)) ok284 8 rfl rfl rfl ?_
      exact r_iret ok284 9 rfl rfl rfl h4

set_option maxRecDepth 100000 in
set_option maxHeartbeats 4000000 in
theorem B284_30 {Θ : Th} {d : Nat} {σ : Mem} {Q : Po} {x1 : Int32} {x2 : Int32} 
    (h : ((96 ≤ x2 → G Θ (d + 1) 284 61 [some (.ref 124), some (.int x1), some (.int 0)] [] σ Q) ∧ (¬ 96 ≤ x2 → (vp_in ((96 * x1) + x2) 288 ∧ (vp_in x2 96 ∧ G Θ (d + 1) 284 30 [some (.ref 124), some (.int x1), some (.int (x2 + 1))] [] (sI σ 140 (x2.toNatClampNeg) (σ.1 180 ((96 * x1) + x2).toNatClampNeg)) Q))))) :
    G Θ (d + 1) 284 30 [some (.ref 124), some (.int x1), some (.int x2)] [] σ Q := by
  refine r_iload_n ok284 18 rfl rfl rfl ?_
  refine r_bipush (v := 96) ok284 19 rfl rfl rfl ?_
  refine r_icmp_ge ok284 20 rfl rfl (fun c1 => ?_) (fun c1 => ?_)
  · have h1 := h.1 c1
    refine r_iconst (v := 0) ok284 35 rfl rfl rfl ?_
    refine r_istore_n ok284 36 rfl rfl ?_
    exact h1
  · have h1 := h.2 c1
    refine r_aload_n ok284 21 rfl rfl rfl ?_
    refine r_getF ok284 22 rfl rfl rfl rfl ?_
    refine r_iload_n ok284 23 rfl rfl rfl ?_
    refine r_aload_n ok284 24 rfl rfl rfl ?_
    refine r_getF ok284 25 rfl rfl rfl rfl ?_
    refine r_bipush (v := 96) ok284 26 rfl rfl rfl ?_
    refine r_iload_n ok284 27 rfl rfl rfl ?_
    refine r_imul ok284 28 rfl rfl ?_
    refine r_iload_n ok284 29 rfl rfl rfl ?_
    refine r_iadd ok284 30 rfl rfl ?_
    obtain ⟨c2, h2⟩ := h1
    refine r_iald ok284 31 rfl rfl rfl c2 ?_
    obtain ⟨c3, h3⟩ := h2
    refine r_iast ok284 32 rfl rfl rfl c3 ?_
    refine r_iinc (v := x2 + 1) ok284 33 rfl rfl rfl rfl ?_
    refine r_goto ok284 34 rfl rfl ?_
    exact h3

set_option maxRecDepth 100000 in
set_option maxHeartbeats 4000000 in
theorem B284_61 {Θ : Th} {d : Nat} {σ : Mem} {Q : Po} {x1 : Int32} {x2 : Int32} 
    (h : ((6 ≤ x2 → G Θ (d + 1) 284 92 [some (.ref 124), some (.int x1), some (.int 0)] [] σ Q) ∧ (¬ 6 ≤ x2 → (vp_in ((6 * x1) + x2) 18 ∧ (vp_in x2 6 ∧ G Θ (d + 1) 284 61 [some (.ref 124), some (.int x1), some (.int (x2 + 1))] [] (sI σ 147 (x2.toNatClampNeg) (vp_nar .boolean (σ.1 178 ((6 * x1) + x2).toNatClampNeg))) Q))))) :
    G Θ (d + 1) 284 61 [some (.ref 124), some (.int x1), some (.int x2)] [] σ Q := by
  refine r_iload_n ok284 37 rfl rfl rfl ?_
  refine r_bipush (v := 6) ok284 38 rfl rfl rfl ?_
  refine r_icmp_ge ok284 39 rfl rfl (fun c1 => ?_) (fun c1 => ?_)
  · have h1 := h.1 c1
    refine r_iconst (v := 0) ok284 54 rfl rfl rfl ?_
    refine r_istore_n ok284 55 rfl rfl ?_
    exact h1
  · have h1 := h.2 c1
    refine r_aload_n ok284 40 rfl rfl rfl ?_
    refine r_getF ok284 41 rfl rfl rfl rfl ?_
    refine r_iload_n ok284 42 rfl rfl rfl ?_
    refine r_aload_n ok284 43 rfl rfl rfl ?_
    refine r_getF ok284 44 rfl rfl rfl rfl ?_
    refine r_bipush (v := 6) ok284 45 rfl rfl rfl ?_
    refine r_iload_n ok284 46 rfl rfl rfl ?_
    refine r_imul ok284 47 rfl rfl ?_
    refine r_iload_n ok284 48 rfl rfl rfl ?_
    refine r_iadd ok284 49 rfl rfl ?_
    obtain ⟨c2, h2⟩ := h1
    refine r_zald ok284 50 rfl rfl rfl c2 ?_
    obtain ⟨c3, h3⟩ := h2
    refine r_zast ok284 51 rfl rfl rfl c3 ?_
    refine r_iinc (v := x2 + 1) ok284 52 rfl rfl rfl rfl ?_
    refine r_goto ok284 53 rfl rfl ?_
    exact h3

set_option maxRecDepth 100000 in
set_option maxHeartbeats 4000000 in
theorem B284_92 {Θ : Th} {d : Nat} {σ : Mem} {Q : Po} {x1 : Int32} {x2 : Int32} 
    (h : ((16 ≤ x2 → Q (some (.int ((sI (sI σ 124 78 0) 124 79 0).1 124 38))) (sI (sI σ 124 78 0) 124 79 0)) ∧ (¬ 16 ≤ x2 → (vp_in ((16 * x1) + x2) 48 ∧ (vp_in x2 16 ∧ (vp_in ((16 * x1) + x2) 48 ∧ (vp_in x2 16 ∧ (vp_in ((16 * x1) + x2) 48 ∧ (vp_in x2 16 ∧ (vp_in ((16 * x1) + x2) 48 ∧ (vp_in x2 16 ∧ G Θ (d + 1) 284 92 [some (.ref 124), some (.int x1), some (.int (x2 + 1))] [] (sI (sI (sI (sI σ 141 (x2.toNatClampNeg) (σ.1 181 ((16 * x1) + x2).toNatClampNeg)) 142 (x2.toNatClampNeg) ((sI σ 141 (x2.toNatClampNeg) (σ.1 181 ((16 * x1) + x2).toNatClampNeg)).1 182 ((16 * x1) + x2).toNatClampNeg)) 143 (x2.toNatClampNeg) ((sI (sI σ 141 (x2.toNatClampNeg) (σ.1 181 ((16 * x1) + x2).toNatClampNeg)) 142 (x2.toNatClampNeg) ((sI σ 141 (x2.toNatClampNeg) (σ.1 181 ((16 * x1) + x2).toNatClampNeg)).1 182 ((16 * x1) + x2).toNatClampNeg)).1 183 ((16 * x1) + x2).toNatClampNeg)) 144 (x2.toNatClampNeg) ((sI (sI (sI σ 141 (x2.toNatClampNeg) (σ.1 181 ((16 * x1) + x2).toNatClampNeg)) 142 (x2.toNatClampNeg) ((sI σ 141 (x2.toNatClampNeg) (σ.1 181 ((16 * x1) + x2).toNatClampNeg)).1 182 ((16 * x1) + x2).toNatClampNeg)) 143 (x2.toNatClampNeg) ((sI (sI σ 141 (x2.toNatClampNeg) (σ.1 181 ((16 * x1) + x2).toNatClampNeg)) 142 (x2.toNatClampNeg) ((sI σ 141 (x2.toNatClampNeg) (σ.1 181 ((16 * x1) + x2).toNatClampNeg)).1 182 ((16 * x1) + x2).toNatClampNeg)).1 183 ((16 * x1) + x2).toNatClampNeg)).1 184 ((16 * x1) + x2).toNatClampNeg)) Q))))))))))) :
    G Θ (d + 1) 284 92 [some (.ref 124), some (.int x1), some (.int x2)] [] σ Q := by
  refine r_iload_n ok284 56 rfl rfl rfl ?_
  refine r_bipush (v := 16) ok284 57 rfl rfl rfl ?_
  refine r_icmp_ge ok284 58 rfl rfl (fun c1 => ?_) (fun c1 => ?_)
  · have h1 := h.1 c1
    refine r_aload_n ok284 109 rfl rfl rfl ?_
    refine r_iconst (v := 0) ok284 110 rfl rfl rfl ?_
    refine r_putI ok284 111 rfl rfl rfl rfl ?_
    refine r_aload_n ok284 112 rfl rfl rfl ?_
    refine r_iconst (v := 0) ok284 113 rfl rfl rfl ?_
    refine r_putI ok284 114 rfl rfl rfl rfl ?_
    refine r_aload_n ok284 115 rfl rfl rfl ?_
    refine r_getI ok284 116 rfl rfl rfl rfl ?_
    exact r_iret ok284 117 rfl rfl rfl h1
  · have h1 := h.2 c1
    refine r_aload_n ok284 59 rfl rfl rfl ?_
    refine r_getF ok284 60 rfl rfl rfl rfl ?_
    refine r_iload_n ok284 61 rfl rfl rfl ?_
    refine r_aload_n ok284 62 rfl rfl rfl ?_
    refine r_getF ok284 63 rfl rfl rfl rfl ?_
    refine r_bipush (v := 16) ok284 64 rfl rfl rfl ?_
    refine r_iload_n ok284 65 rfl rfl rfl ?_
    refine r_imul ok284 66 rfl rfl ?_
    refine r_iload_n ok284 67 rfl rfl rfl ?_
    refine r_iadd ok284 68 rfl rfl ?_
    obtain ⟨c2, h2⟩ := h1
    refine r_iald ok284 69 rfl rfl rfl c2 ?_
    obtain ⟨c3, h3⟩ := h2
    refine r_iast ok284 70 rfl rfl rfl c3 ?_
    refine r_aload_n ok284 71 rfl rfl rfl ?_
    refine r_getF ok284 72 rfl rfl rfl rfl ?_
    refine r_iload_n ok284 73 rfl rfl rfl ?_
    refine r_aload_n ok284 74 rfl rfl rfl ?_
    refine r_getF ok284 75 rfl rfl rfl rfl ?_
    refine r_bipush (v := 16) ok284 76 rfl rfl rfl ?_
    refine r_iload_n ok284 77 rfl rfl rfl ?_
    refine r_imul ok284 78 rfl rfl ?_
    refine r_iload_n ok284 79 rfl rfl rfl ?_
    refine r_iadd ok284 80 rfl rfl ?_
    obtain ⟨c4, h4⟩ := h3
    refine r_iald ok284 81 rfl rfl rfl c4 ?_
    obtain ⟨c5, h5⟩ := h4
    refine r_iast ok284 82 rfl rfl rfl c5 ?_
    refine r_aload_n ok284 83 rfl rfl rfl ?_
    refine r_getF ok284 84 rfl rfl rfl rfl ?_
    refine r_iload_n ok284 85 rfl rfl rfl ?_
    refine r_aload_n ok284 86 rfl rfl rfl ?_
    refine r_getF ok284 87 rfl rfl rfl rfl ?_
    refine r_bipush (v := 16) ok284 88 rfl rfl rfl ?_
    refine r_iload_n ok284 89 rfl rfl rfl ?_
    refine r_imul ok284 90 rfl rfl ?_
    refine r_iload_n ok284 91 rfl rfl rfl ?_
    refine r_iadd ok284 92 rfl rfl ?_
    obtain ⟨c6, h6⟩ := h5
    refine r_iald ok284 93 rfl rfl rfl c6 ?_
    obtain ⟨c7, h7⟩ := h6
    refine r_iast ok284 94 rfl rfl rfl c7 ?_
    refine r_aload_n ok284 95 rfl rfl rfl ?_
    refine r_getF ok284 96 rfl rfl rfl rfl ?_
    refine r_iload_n ok284 97 rfl rfl rfl ?_
    refine r_aload_n ok284 98 rfl rfl rfl ?_
    refine r_getF ok284 99 rfl rfl rfl rfl ?_
    refine r_bipush (v := 16) ok284 100 rfl rfl rfl ?_
    refine r_iload_n ok284 101 rfl rfl rfl ?_
    refine r_imul ok284 102 rfl rfl ?_
    refine r_iload_n ok284 103 rfl rfl rfl ?_
    refine r_iadd ok284 104 rfl rfl ?_
    obtain ⟨c8, h8⟩ := h7
    refine r_iald ok284 105 rfl rfl rfl c8 ?_
    obtain ⟨c9, h9⟩ := h8
    refine r_iast ok284 106 rfl rfl rfl c9 ?_
    refine r_iinc (v := x2 + 1) ok284 107 rfl rfl rfl rfl ?_
    refine r_goto ok284 108 rfl rfl ?_
    exact h9

theorem K284 {Θ : Th} {d : Nat} {σ : Mem} {Q : Po} {x1 : Int32} (h : G Θ (d + 1) 284 0 [some (.ref 124), some (.int x1), none] [] σ Q) : Cm Θ (d + 1) 284 [.ref 124, .int x1] σ Q :=
  C_of_G okM284 (Nat.le_of_ble_eq_true rfl) rfl h

-- 285: LikeYearsModel.about(I)I
set_option maxRecDepth 100000 in
set_option maxHeartbeats 4000000 in
theorem B285_0 {Θ : Th} {d : Nat} {σ : Mem} {Q : Po} {x1 : Int32} 
    (h : ((x1 < 10 → (((x1.toInt < 0 ∨ 5 < x1.toInt) → Q (some (.int (-1))) σ) ∧ (x1.toInt = 0 → Q (some (.int (σ.1 124 37))) σ) ∧ (x1.toInt = 1 → Q (some (.int (σ.1 124 38))) σ) ∧ (x1.toInt = 2 → Q (some (.int (σ.1 124 39))) σ) ∧ (x1.toInt = 3 → Q (some (.int (σ.1 124 78))) σ) ∧ (x1.toInt = 4 → Q (some (.int (σ.1 124 1))) σ) ∧ (x1.toInt = 5 → Q (some (.int (σ.1 124 70))) σ))) ∧ (¬ x1 < 10 → Ci Θ d 200 [.ref 124, .int (x1 - 10)] σ (fun v3 σ3 => ((v3 = 0 → (((x1.toInt < 0 ∨ 5 < x1.toInt) → Q (some (.int (-1))) σ3) ∧ (x1.toInt = 0 → Q (some (.int (σ3.1 124 37))) σ3) ∧ (x1.toInt = 1 → Q (some (.int (σ3.1 124 38))) σ3) ∧ (x1.toInt = 2 → Q (some (.int (σ3.1 124 39))) σ3) ∧ (x1.toInt = 3 → Q (some (.int (σ3.1 124 78))) σ3) ∧ (x1.toInt = 4 → Q (some (.int (σ3.1 124 1))) σ3) ∧ (x1.toInt = 5 → Q (some (.int (σ3.1 124 70))) σ3))) ∧ (¬ v3 = 0 → (vp_in (x1 - 10) 16 ∧ Q (some (.int (σ3.1 143 (x1 - 10).toNatClampNeg))) σ3))))))) :
    G Θ (d + 1) 285 0 [some (.ref 124), some (.int x1)] [] σ Q := by
  refine r_iload_n ok285 0 rfl rfl rfl ?_
  refine r_bipush (v := 10) ok285 1 rfl rfl rfl ?_
  refine r_icmp_lt ok285 2 rfl rfl (fun c1 => ?_) (fun c1 => ?_)
  · have h1 := h.1 c1
    refine r_iload_n ok285 16 rfl rfl rfl ?_
    refine r_tsw (tl := [68, 73, 78, 83, 88, 93]) ok285 17 rfl rfl rfl rfl (fun c2 => ?_) ?_
    · have h2 := h1.1 c2
      refine r_iconst (v := (-1)) ok285 36 rfl rfl rfl ?_
      exact r_iret ok285 37 rfl rfl rfl h2
    · refine And.intro (fun c2 => ?_) ?_
      · have h2 := h1.2.1 c2
        refine r_aload_n ok285 18 rfl rfl rfl ?_
        refine r_getI ok285 19 rfl rfl rfl rfl ?_
        exact r_iret ok285 20 rfl rfl rfl h2
      · refine And.intro (fun c2 => ?_) ?_
        · have h2 := h1.2.2.1 c2
          refine r_aload_n ok285 21 rfl rfl rfl ?_
          refine r_getI ok285 22 rfl rfl rfl rfl ?_
          exact r_iret ok285 23 rfl rfl rfl h2
        · refine And.intro (fun c2 => ?_) ?_
          · have h2 := h1.2.2.2.1 c2
            refine r_aload_n ok285 24 rfl rfl rfl ?_
            refine r_getI ok285 25 rfl rfl rfl rfl ?_
            exact r_iret ok285 26 rfl rfl rfl h2
          · refine And.intro (fun c2 => ?_) ?_
            · have h2 := h1.2.2.2.2.1 c2
              refine r_aload_n ok285 27 rfl rfl rfl ?_
              refine r_getI ok285 28 rfl rfl rfl rfl ?_
              exact r_iret ok285 29 rfl rfl rfl h2
            · refine And.intro (fun c2 => ?_) ?_
              · have h2 := h1.2.2.2.2.2.1 c2
                refine r_aload_n ok285 30 rfl rfl rfl ?_
                refine r_getI ok285 31 rfl rfl rfl rfl ?_
                exact r_iret ok285 32 rfl rfl rfl h2
              · intro c2
                have h2 := h1.2.2.2.2.2.2 c2
                refine r_aload_n ok285 33 rfl rfl rfl ?_
                refine r_getI ok285 34 rfl rfl rfl rfl ?_
                exact r_iret ok285 35 rfl rfl rfl h2
  · have h1 := h.2 c1
    refine r_aload_n ok285 3 rfl rfl rfl ?_
    refine r_iload_n ok285 4 rfl rfl rfl ?_
    refine r_bipush (v := 10) ok285 5 rfl rfl rfl ?_
    refine r_isub ok285 6 rfl rfl ?_
    refine r_invVi (as := [.int (x1 - 10)]) (S := []) ok285 7 rfl rfl mf200 rfl rfl (Nat.le_of_ble_eq_true rfl) rfl h1 (fun v3 σ3 h3 => ?_)
    refine r_if_eq ok285 8 rfl rfl (fun c4 => ?_) (fun c4 => ?_)
    · have h4 := h3.1 c4
      refine r_iload_n ok285 16 rfl rfl rfl ?_
      refine r_tsw (tl := [68, 73, 78, 83, 88, 93]) ok285 17 rfl rfl rfl rfl (fun c5 => ?_) ?_
      · have h5 := h4.1 c5
        refine r_iconst (v := (-1)) ok285 36 rfl rfl rfl ?_
        exact r_iret ok285 37 rfl rfl rfl h5
      · refine And.intro (fun c5 => ?_) ?_
        · have h5 := h4.2.1 c5
          refine r_aload_n ok285 18 rfl rfl rfl ?_
          refine r_getI ok285 19 rfl rfl rfl rfl ?_
          exact r_iret ok285 20 rfl rfl rfl h5
        · refine And.intro (fun c5 => ?_) ?_
          · have h5 := h4.2.2.1 c5
            refine r_aload_n ok285 21 rfl rfl rfl ?_
            refine r_getI ok285 22 rfl rfl rfl rfl ?_
            exact r_iret ok285 23 rfl rfl rfl h5
          · refine And.intro (fun c5 => ?_) ?_
            · have h5 := h4.2.2.2.1 c5
              refine r_aload_n ok285 24 rfl rfl rfl ?_
              refine r_getI ok285 25 rfl rfl rfl rfl ?_
              exact r_iret ok285 26 rfl rfl rfl h5
            · refine And.intro (fun c5 => ?_) ?_
              · have h5 := h4.2.2.2.2.1 c5
                refine r_aload_n ok285 27 rfl rfl rfl ?_
                refine r_getI ok285 28 rfl rfl rfl rfl ?_
                exact r_iret ok285 29 rfl rfl rfl h5
              · refine And.intro (fun c5 => ?_) ?_
                · have h5 := h4.2.2.2.2.2.1 c5
                  refine r_aload_n ok285 30 rfl rfl rfl ?_
                  refine r_getI ok285 31 rfl rfl rfl rfl ?_
                  exact r_iret ok285 32 rfl rfl rfl h5
                · intro c5
                  have h5 := h4.2.2.2.2.2.2 c5
                  refine r_aload_n ok285 33 rfl rfl rfl ?_
                  refine r_getI ok285 34 rfl rfl rfl rfl ?_
                  exact r_iret ok285 35 rfl rfl rfl h5
    · have h4 := h3.2 c4
      refine r_aload_n ok285 9 rfl rfl rfl ?_
      refine r_getF ok285 10 rfl rfl rfl rfl ?_
      refine r_iload_n ok285 11 rfl rfl rfl ?_
      refine r_bipush (v := 10) ok285 12 rfl rfl rfl ?_
      refine r_isub ok285 13 rfl rfl ?_
      obtain ⟨c6, h6⟩ := h4
      refine r_iald ok285 14 rfl rfl rfl c6 ?_
      exact r_iret ok285 15 rfl rfl rfl h6

theorem K285 {Θ : Th} {d : Nat} {σ : Mem} {Q : Po} {x1 : Int32} (h : G Θ (d + 1) 285 0 [some (.ref 124), some (.int x1)] [] σ Q) : Cm Θ (d + 1) 285 [.ref 124, .int x1] σ Q :=
  C_of_G okM285 (Nat.le_of_ble_eq_true rfl) rfl h
