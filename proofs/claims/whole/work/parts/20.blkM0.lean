-- 168: LikeYearsModel.feed(IIIII)I
set_option maxRecDepth 100000 in
set_option maxHeartbeats 4000000 in
theorem B168_0 {Θ : Th} {d : Nat} {σ : Mem} {Q : Po} {x1 : Int32} {x2 : Int32} {x3 : Int32} {x4 : Int32} {x5 : Int32} 
    (h : ((((σ.1 124 1) + 20) ≤ 1300 → Cv Θ d 169 [.ref 124, .int x1] σ (fun σ2 => Cv Θ d 169 [.ref 124, .int x2] σ2 (fun σ3 => Cv Θ d 169 [.ref 124, .int x3] σ3 (fun σ4 => Cv Θ d 169 [.ref 124, .int x4] σ4 (fun σ5 => Cv Θ d 169 [.ref 124, .int x5] σ5 (fun σ6 => Q (some (.int (σ6.1 124 1))) σ6)))))) ∧ (¬ ((σ.1 124 1) + 20) ≤ 1300 → Q (some (.int (-1))) σ))) :
    G Θ (d + 1) 168 0 [some (.ref 124), some (.int x1), some (.int x2), some (.int x3), some (.int x4), some (.int x5)] [] σ Q := by
  refine r_aload_n ok168 0 rfl rfl rfl ?_
  refine r_getI ok168 1 rfl rfl rfl rfl ?_
  refine r_bipush (v := 20) ok168 2 rfl rfl rfl ?_
  refine r_iadd ok168 3 rfl rfl ?_
  refine r_sipush (v := 1300) ok168 4 rfl rfl rfl ?_
  refine r_icmp_le ok168 5 rfl rfl (fun c1 => ?_) (fun c1 => ?_)
  · have h1 := h.1 c1
    refine r_aload_n ok168 8 rfl rfl rfl ?_
    refine r_iload_n ok168 9 rfl rfl rfl ?_
    refine r_invVv (as := [.int x1]) (S := []) ok168 10 rfl rfl mf169 rfl rfl (Nat.le_of_ble_eq_true rfl) rfl h1 (fun σ2 h2 => ?_)
    refine r_aload_n ok168 11 rfl rfl rfl ?_
    refine r_iload_n ok168 12 rfl rfl rfl ?_
    refine r_invVv (as := [.int x2]) (S := []) ok168 13 rfl rfl mf169 rfl rfl (Nat.le_of_ble_eq_true rfl) rfl h2 (fun σ3 h3 => ?_)
    refine r_aload_n ok168 14 rfl rfl rfl ?_
    refine r_iload_n ok168 15 rfl rfl rfl ?_
    refine r_invVv (as := [.int x3]) (S := []) ok168 16 rfl rfl mf169 rfl rfl (Nat.le_of_ble_eq_true rfl) rfl h3 (fun σ4 h4 => ?_)
    refine r_aload_n ok168 17 rfl rfl rfl ?_
    refine r_iload ok168 18 rfl rfl rfl ?_
    refine r_invVv (as := [.int x4]) (S := []) ok168 19 rfl rfl mf169 rfl rfl (Nat.le_of_ble_eq_true rfl) rfl h4 (fun σ5 h5 => ?_)
    refine r_aload_n ok168 20 rfl rfl rfl ?_
    refine r_iload ok168 21 rfl rfl rfl ?_
    refine r_invVv (as := [.int x5]) (S := []) ok168 22 rfl rfl mf169 rfl rfl (Nat.le_of_ble_eq_true rfl) rfl h5 (fun σ6 h6 => ?_)
    refine r_aload_n ok168 23 rfl rfl rfl ?_
    refine r_getI ok168 24 rfl rfl rfl rfl ?_
    exact r_iret ok168 25 rfl rfl rfl h6
  · have h1 := h.2 c1
    refine r_iconst (v := (-1)) ok168 6 rfl rfl rfl ?_
    exact r_iret ok168 7 rfl rfl rfl h1

theorem K168 {Θ : Th} {d : Nat} {σ : Mem} {Q : Po} {x1 : Int32} {x2 : Int32} {x3 : Int32} {x4 : Int32} {x5 : Int32} (h : G Θ (d + 1) 168 0 [some (.ref 124), some (.int x1), some (.int x2), some (.int x3), some (.int x4), some (.int x5)] [] σ Q) : Cm Θ (d + 1) 168 [.ref 124, .int x1, .int x2, .int x3, .int x4, .int x5] σ Q :=
  C_of_G okM168 (Nat.le_of_ble_eq_true rfl) rfl h

-- 169: LikeYearsModel.four(I)V
set_option maxRecDepth 100000 in
set_option maxHeartbeats 4000000 in
theorem B169_0 {Θ : Th} {d : Nat} {σ : Mem} {Q : Po} {x1 : Int32} 
    (h : G Θ d 169 3 [some (.ref 124), some (.int x1), some (.int 24)] [] σ Q) :
    G Θ d 169 0 [some (.ref 124), some (.int x1), none] [] σ Q := by
  refine r_bipush (v := 24) ok169 0 rfl rfl rfl ?_
  refine r_istore_n ok169 1 rfl rfl ?_
  exact h

set_option maxRecDepth 100000 in
set_option maxHeartbeats 4000000 in
theorem B169_3 {Θ : Th} {d : Nat} {σ : Mem} {Q : Po} {x1 : Int32} {x2 : Int32} 
    (h : ((x2 < 0 → Q none σ) ∧ (¬ x2 < 0 → (vp_in (σ.1 124 1) 1300 ∧ G Θ d 169 3 [some (.ref 124), some (.int x1), some (.int (x2 + (-8)))] [] (sI (sI σ 125 ((σ.1 124 1).toNatClampNeg) ((x1 >>> (x2 &&& 31)) &&& 255)) 124 1 (((sI σ 125 ((σ.1 124 1).toNatClampNeg) ((x1 >>> (x2 &&& 31)) &&& 255)).1 124 1) + 1)) Q)))) :
    G Θ d 169 3 [some (.ref 124), some (.int x1), some (.int x2)] [] σ Q := by
  refine r_iload_n ok169 2 rfl rfl rfl ?_
  refine r_if_lt ok169 3 rfl rfl (fun c1 => ?_) (fun c1 => ?_)
  · have h1 := h.1 c1
    exact r_ret ok169 22 rfl rfl rfl h1
  · have h1 := h.2 c1
    refine r_aload_n ok169 4 rfl rfl rfl ?_
    refine r_getF ok169 5 rfl rfl rfl rfl ?_
    refine r_aload_n ok169 6 rfl rfl rfl ?_
    refine r_getI ok169 7 rfl rfl rfl rfl ?_
    refine r_iload_n ok169 8 rfl rfl rfl ?_
    refine r_iload_n ok169 9 rfl rfl rfl ?_
    refine r_ishr ok169 10 rfl rfl ?_
    refine r_sipush (v := 255) ok169 11 rfl rfl rfl ?_
    refine r_iand ok169 12 rfl rfl ?_
    obtain ⟨c2, h2⟩ := h1
    refine r_iast ok169 13 rfl rfl rfl c2 ?_
    refine r_aload_n ok169 14 rfl rfl rfl ?_
    refine r_dup ok169 15 rfl rfl rfl ?_
    refine r_getI ok169 16 rfl rfl rfl rfl ?_
    refine r_iconst (v := 1) ok169 17 rfl rfl rfl ?_
    refine r_iadd ok169 18 rfl rfl ?_
    refine r_putI ok169 19 rfl rfl rfl rfl ?_
    refine r_iinc (v := x2 + (-8)) ok169 20 rfl rfl rfl rfl ?_
    refine r_goto ok169 21 rfl rfl ?_
    exact h2

theorem K169 {Θ : Th} {d : Nat} {σ : Mem} {Q : Po} {x1 : Int32} (h : G Θ d 169 0 [some (.ref 124), some (.int x1), none] [] σ Q) : Cm Θ d 169 [.ref 124, .int x1] σ Q :=
  C_of_G okM169 (Nat.le_of_ble_eq_true rfl) rfl h

-- 170: LikeYearsModel.end(I)I
set_option maxRecDepth 100000 in
set_option maxHeartbeats 4000000 in
theorem B170_0 {Θ : Th} {d : Nat} {σ : Mem} {Q : Po} {x1 : Int32} 
    (h : ((x1 < 0 → Q (some (.int (-1))) σ) ∧ (¬ x1 < 0 → ((x1 ≤ (σ.1 124 1) → Q (some (.int x1)) (sI σ 124 1 x1)) ∧ (¬ x1 ≤ (σ.1 124 1) → Q (some (.int (-1))) σ))))) :
    G Θ d 170 0 [some (.ref 124), some (.int x1)] [] σ Q := by
  refine r_iload_n ok170 0 rfl rfl rfl ?_
  refine r_if_lt ok170 1 rfl rfl (fun c1 => ?_) (fun c1 => ?_)
  · have h1 := h.1 c1
    refine r_iconst (v := (-1)) ok170 6 rfl rfl rfl ?_
    exact r_iret ok170 7 rfl rfl rfl h1
  · have h1 := h.2 c1
    refine r_iload_n ok170 2 rfl rfl rfl ?_
    refine r_aload_n ok170 3 rfl rfl rfl ?_
    refine r_getI ok170 4 rfl rfl rfl rfl ?_
    refine r_icmp_le ok170 5 rfl rfl (fun c2 => ?_) (fun c2 => ?_)
    · have h2 := h1.1 c2
      refine r_aload_n ok170 8 rfl rfl rfl ?_
      refine r_iload_n ok170 9 rfl rfl rfl ?_
      refine r_putI ok170 10 rfl rfl rfl rfl ?_
      refine r_iload_n ok170 11 rfl rfl rfl ?_
      exact r_iret ok170 12 rfl rfl rfl h2
    · have h2 := h1.2 c2
      refine r_iconst (v := (-1)) ok170 6 rfl rfl rfl ?_
      exact r_iret ok170 7 rfl rfl rfl h2

theorem K170 {Θ : Th} {d : Nat} {σ : Mem} {Q : Po} {x1 : Int32} (h : G Θ d 170 0 [some (.ref 124), some (.int x1)] [] σ Q) : Cm Θ d 170 [.ref 124, .int x1] σ Q :=
  C_of_G okM170 (Nat.le_of_ble_eq_true rfl) rfl h

-- 171: LikeYearsModel.here(I)I
set_option maxRecDepth 100000 in
set_option maxHeartbeats 4000000 in
theorem B171_0 {Θ : Th} {d : Nat} {σ : Mem} {Q : Po} {x1 : Int32} 
    (h : (((σ.1 124 5) ≤ ((σ.1 124 4) + x1) → Q (some (.int (-1))) σ) ∧ (¬ (σ.1 124 5) ≤ ((σ.1 124 4) + x1) → (vp_in ((σ.1 124 4) + x1) 1300 ∧ Q (some (.int (σ.1 125 ((σ.1 124 4) + x1).toNatClampNeg))) σ)))) :
    G Θ d 171 0 [some (.ref 124), some (.int x1)] [] σ Q := by
  refine r_aload_n ok171 0 rfl rfl rfl ?_
  refine r_getI ok171 1 rfl rfl rfl rfl ?_
  refine r_iload_n ok171 2 rfl rfl rfl ?_
  refine r_iadd ok171 3 rfl rfl ?_
  refine r_aload_n ok171 4 rfl rfl rfl ?_
  refine r_getI ok171 5 rfl rfl rfl rfl ?_
  refine r_icmp_ge ok171 6 rfl rfl (fun c1 => ?_) (fun c1 => ?_)
  · have h1 := h.1 c1
    refine r_iconst (v := (-1)) ok171 15 rfl rfl rfl ?_
    exact r_iret ok171 16 rfl rfl rfl h1
  · have h1 := h.2 c1
    refine r_aload_n ok171 7 rfl rfl rfl ?_
    refine r_getF ok171 8 rfl rfl rfl rfl ?_
    refine r_aload_n ok171 9 rfl rfl rfl ?_
    refine r_getI ok171 10 rfl rfl rfl rfl ?_
    refine r_iload_n ok171 11 rfl rfl rfl ?_
    refine r_iadd ok171 12 rfl rfl ?_
    obtain ⟨c2, h2⟩ := h1
    refine r_iald ok171 13 rfl rfl rfl c2 ?_
    refine r_goto ok171 14 rfl rfl ?_
    exact r_iret ok171 16 rfl rfl rfl h2

theorem K171 {Θ : Th} {d : Nat} {σ : Mem} {Q : Po} {x1 : Int32} (h : G Θ d 171 0 [some (.ref 124), some (.int x1)] [] σ Q) : Cm Θ d 171 [.ref 124, .int x1] σ Q :=
  C_of_G okM171 (Nat.le_of_ble_eq_true rfl) rfl h

-- 172: LikeYearsModel.isLetter(I)Z
set_option maxRecDepth 100000 in
set_option maxHeartbeats 4000000 in
theorem B172_0 {Θ : Th} {d : Nat} {σ : Mem} {Q : Po} {x0 : Int32} 
    (h : ((x0 < 97 → Q (some (.int 0)) σ) ∧ (¬ x0 < 97 → ((122 < x0 → Q (some (.int 0)) σ) ∧ (¬ 122 < x0 → Q (some (.int 1)) σ))))) :
    G Θ d 172 0 [some (.int x0)] [] σ Q := by
  refine r_iload_n ok172 0 rfl rfl rfl ?_
  refine r_bipush (v := 97) ok172 1 rfl rfl rfl ?_
  refine r_icmp_lt ok172 2 rfl rfl (fun c1 => ?_) (fun c1 => ?_)
  · have h1 := h.1 c1
    refine r_iconst (v := 0) ok172 8 rfl rfl rfl ?_
    exact r_zret ok172 9 rfl rfl rfl (Or.inl rfl) h1
  · have h1 := h.2 c1
    refine r_iload_n ok172 3 rfl rfl rfl ?_
    refine r_bipush (v := 122) ok172 4 rfl rfl rfl ?_
    refine r_icmp_gt ok172 5 rfl rfl (fun c2 => ?_) (fun c2 => ?_)
    · have h2 := h1.1 c2
      refine r_iconst (v := 0) ok172 8 rfl rfl rfl ?_
      exact r_zret ok172 9 rfl rfl rfl (Or.inl rfl) h2
    · have h2 := h1.2 c2
      refine r_iconst (v := 1) ok172 6 rfl rfl rfl ?_
      refine r_goto ok172 7 rfl rfl ?_
      exact r_zret ok172 9 rfl rfl rfl (Or.inr rfl) h2

theorem K172 {Θ : Th} {d : Nat} {σ : Mem} {Q : Po} {x0 : Int32} (h : G Θ d 172 0 [some (.int x0)] [] σ Q) : Cm Θ d 172 [.int x0] σ Q :=
  C_of_G okM172 (Nat.le_of_ble_eq_true rfl) rfl h

-- 173: LikeYearsModel.isDigit(I)Z
set_option maxRecDepth 100000 in
set_option maxHeartbeats 4000000 in
theorem B173_0 {Θ : Th} {d : Nat} {σ : Mem} {Q : Po} {x0 : Int32} 
    (h : ((x0 < 48 → Q (some (.int 0)) σ) ∧ (¬ x0 < 48 → ((57 < x0 → Q (some (.int 0)) σ) ∧ (¬ 57 < x0 → Q (some (.int 1)) σ))))) :
    G Θ d 173 0 [some (.int x0)] [] σ Q := by
  refine r_iload_n ok173 0 rfl rfl rfl ?_
  refine r_bipush (v := 48) ok173 1 rfl rfl rfl ?_
  refine r_icmp_lt ok173 2 rfl rfl (fun c1 => ?_) (fun c1 => ?_)
  · have h1 := h.1 c1
    refine r_iconst (v := 0) ok173 8 rfl rfl rfl ?_
    exact r_zret ok173 9 rfl rfl rfl (Or.inl rfl) h1
  · have h1 := h.2 c1
    refine r_iload_n ok173 3 rfl rfl rfl ?_
    refine r_bipush (v := 57) ok173 4 rfl rfl rfl ?_
    refine r_icmp_gt ok173 5 rfl rfl (fun c2 => ?_) (fun c2 => ?_)
    · have h2 := h1.1 c2
      refine r_iconst (v := 0) ok173 8 rfl rfl rfl ?_
      exact r_zret ok173 9 rfl rfl rfl (Or.inl rfl) h2
    · have h2 := h1.2 c2
      refine r_iconst (v := 1) ok173 6 rfl rfl rfl ?_
      refine r_goto ok173 7 rfl rfl ?_
      exact r_zret ok173 9 rfl rfl rfl (Or.inr rfl) h2

theorem K173 {Θ : Th} {d : Nat} {σ : Mem} {Q : Po} {x0 : Int32} (h : G Θ d 173 0 [some (.int x0)] [] σ Q) : Cm Θ d 173 [.int x0] σ Q :=
  C_of_G okM173 (Nat.le_of_ble_eq_true rfl) rfl h

-- 174: LikeYearsModel.isLawSign(I)Z
set_option maxRecDepth 100000 in
set_option maxHeartbeats 4000000 in
theorem B174_0 {Θ : Th} {d : Nat} {σ : Mem} {Q : Po} {x0 : Int32} 
    (h : ((x0 = 40 → Q (some (.int 1)) σ) ∧ (¬ x0 = 40 → ((x0 = 41 → Q (some (.int 1)) σ) ∧ (¬ x0 = 41 → ((x0 = 60 → Q (some (.int 1)) σ) ∧ (¬ x0 = 60 → ((x0 = 62 → Q (some (.int 1)) σ) ∧ (¬ x0 = 62 → ((x0 = 61 → Q (some (.int 1)) σ) ∧ (¬ x0 = 61 → ((x0 = 43 → Q (some (.int 1)) σ) ∧ (¬ x0 = 43 → ((x0 = 45 → Q (some (.int 1)) σ) ∧ (¬ x0 = 45 → ((¬ x0 = 42 → Q (some (.int 0)) σ) ∧ (x0 = 42 → Q (some (.int 1)) σ))))))))))))))))) :
    G Θ d 174 0 [some (.int x0)] [] σ Q := by
  refine r_iload_n ok174 0 rfl rfl rfl ?_
  refine r_bipush (v := 40) ok174 1 rfl rfl rfl ?_
  refine r_icmp_eq ok174 2 rfl rfl (fun c1 => ?_) (fun c1 => ?_)
  · have h1 := h.1 c1
    refine r_iconst (v := 1) ok174 24 rfl rfl rfl ?_
    refine r_goto ok174 25 rfl rfl ?_
    exact r_zret ok174 27 rfl rfl rfl (Or.inr rfl) h1
  · have h1 := h.2 c1
    refine r_iload_n ok174 3 rfl rfl rfl ?_
    refine r_bipush (v := 41) ok174 4 rfl rfl rfl ?_
    refine r_icmp_eq ok174 5 rfl rfl (fun c2 => ?_) (fun c2 => ?_)
    · have h2 := h1.1 c2
      refine r_iconst (v := 1) ok174 24 rfl rfl rfl ?_
      refine r_goto ok174 25 rfl rfl ?_
      exact r_zret ok174 27 rfl rfl rfl (Or.inr rfl) h2
    · have h2 := h1.2 c2
      refine r_iload_n ok174 6 rfl rfl rfl ?_
      refine r_bipush (v := 60) ok174 7 rfl rfl rfl ?_
      refine r_icmp_eq ok174 8 rfl rfl (fun c3 => ?_) (fun c3 => ?_)
      · have h3 := h2.1 c3
        refine r_iconst (v := 1) ok174 24 rfl rfl rfl ?_
        refine r_goto ok174 25 rfl rfl ?_
        exact r_zret ok174 27 rfl rfl rfl (Or.inr rfl) h3
      · have h3 := h2.2 c3
        refine r_iload_n ok174 9 rfl rfl rfl ?_
        refine r_bipush (v := 62) ok174 10 rfl rfl rfl ?_
        refine r_icmp_eq ok174 11 rfl rfl (fun c4 => ?_) (fun c4 => ?_)
        · have h4 := h3.1 c4
          refine r_iconst (v := 1) ok174 24 rfl rfl rfl ?_
          refine r_goto ok174 25 rfl rfl ?_
          exact r_zret ok174 27 rfl rfl rfl (Or.inr rfl) h4
        · have h4 := h3.2 c4
          refine r_iload_n ok174 12 rfl rfl rfl ?_
          refine r_bipush (v := 61) ok174 13 rfl rfl rfl ?_
          refine r_icmp_eq ok174 14 rfl rfl (fun c5 => ?_) (fun c5 => ?_)
          · have h5 := h4.1 c5
            refine r_iconst (v := 1) ok174 24 rfl rfl rfl ?_
            refine r_goto ok174 25 rfl rfl ?_
            exact r_zret ok174 27 rfl rfl rfl (Or.inr rfl) h5
          · have h5 := h4.2 c5
            refine r_iload_n ok174 15 rfl rfl rfl ?_
            refine r_bipush (v := 43) ok174 16 rfl rfl rfl ?_
            refine r_icmp_eq ok174 17 rfl rfl (fun c6 => ?_) (fun c6 => ?_)
            · have h6 := h5.1 c6
              refine r_iconst (v := 1) ok174 24 rfl rfl rfl ?_
              refine r_goto ok174 25 rfl rfl ?_
              exact r_zret ok174 27 rfl rfl rfl (Or.inr rfl) h6
            · have h6 := h5.2 c6
              refine r_iload_n ok174 18 rfl rfl rfl ?_
              refine r_bipush (v := 45) ok174 19 rfl rfl rfl ?_
              refine r_icmp_eq ok174 20 rfl rfl (fun c7 => ?_) (fun c7 => ?_)
              · have h7 := h6.1 c7
                refine r_iconst (v := 1) ok174 24 rfl rfl rfl ?_
                refine r_goto ok174 25 rfl rfl ?_
                exact r_zret ok174 27 rfl rfl rfl (Or.inr rfl) h7
              · have h7 := h6.2 c7
                refine r_iload_n ok174 21 rfl rfl rfl ?_
                refine r_bipush (v := 42) ok174 22 rfl rfl rfl ?_
                refine r_icmp_ne ok174 23 rfl rfl (fun c8 => ?_) (fun c8 => ?_)
                · have h8 := h7.1 c8
                  refine r_iconst (v := 0) ok174 26 rfl rfl rfl ?_
                  exact r_zret ok174 27 rfl rfl rfl (Or.inl rfl) h8
                · have h8 := h7.2 c8
                  refine r_iconst (v := 1) ok174 24 rfl rfl rfl ?_
                  refine r_goto ok174 25 rfl rfl ?_
                  exact r_zret ok174 27 rfl rfl rfl (Or.inr rfl) h8

theorem K174 {Θ : Th} {d : Nat} {σ : Mem} {Q : Po} {x0 : Int32} (h : G Θ d 174 0 [some (.int x0)] [] σ Q) : Cm Θ d 174 [.int x0] σ Q :=
  C_of_G okM174 (Nat.le_of_ble_eq_true rfl) rfl h

-- 175: LikeYearsModel.token()V
set_option maxRecDepth 100000 in
set_option maxHeartbeats 4000000 in
theorem B175_0 {Θ : Th} {d : Nat} {σ : Mem} {Q : Po} 
    (h : Ci Θ d 171 [.ref 124, .int 0] σ (fun v1 σ1 => ((v1 = 32 → G Θ (d + 1) 175 20 [some (.ref 124), none, none] [] σ1 Q) ∧ (¬ v1 = 32 → Ci Θ d 171 [.ref 124, .int 0] σ1 (fun v3 σ3 => ((¬ v3 = 10 → Ci Θ d 171 [.ref 124, .int 0] (sI σ3 124 7 (σ3.1 124 4)) (fun v5 σ5 => ((0 ≤ v5 → Ci Θ d 172 [.int v5] (sI (sL σ5 124 9 0) 124 8 0) (fun v7 σ7 => ((v7 = 0 → Ci Θ d 173 [.int v5] σ7 (fun v9 σ9 => ((v9 = 0 → ((v5 = 59 → G Θ (d + 1) 175 245 [some (.ref 124), none, some (.int 1)] [] (sI σ9 124 6 v5) Q) ∧ (¬ v5 = 59 → (((σ9.1 124 10) = 0 → G Θ (d + 1) 175 245 [some (.ref 124), none, some (.int 1)] [] (sI σ9 124 6 3) Q) ∧ (¬ (σ9.1 124 10) = 0 → Ci Θ d 174 [.int v5] σ9 (fun v13 σ13 => ((v13 = 0 → G Θ (d + 1) 175 245 [some (.ref 124), none, some (.int 1)] [] (sI σ13 124 6 3) Q) ∧ (¬ v13 = 0 → G Θ (d + 1) 175 245 [some (.ref 124), none, some (.int 1)] [] (sI σ13 124 6 v5) Q)))))))) ∧ (¬ v9 = 0 → G Θ (d + 1) 175 144 [some (.ref 124), none, some (.int 0)] [] σ9 Q)))) ∧ (¬ v7 = 0 → G Θ (d + 1) 175 78 [some (.ref 124), none, some (.int 0)] [] σ7 Q)))) ∧ (¬ 0 ≤ v5 → G Θ (d + 1) 175 245 [some (.ref 124), none, some (.int 0)] [] (sI (sI (sL σ5 124 9 0) 124 8 0) 124 6 0) Q)))) ∧ (v3 = 10 → G Θ (d + 1) 175 20 [some (.ref 124), none, none] [] σ3 Q))))))) :
    G Θ (d + 1) 175 0 [some (.ref 124), none, none] [] σ Q := by
  refine r_aload_n ok175 0 rfl rfl rfl ?_
  refine r_iconst (v := 0) ok175 1 rfl rfl rfl ?_
  refine r_invVi (as := [.int 0]) (S := []) ok175 2 rfl rfl mf171 rfl rfl (Nat.le_of_ble_eq_true rfl) rfl h (fun v1 σ1 h1 => ?_)
  refine r_bipush (v := 32) ok175 3 rfl rfl rfl ?_
  refine r_icmp_eq ok175 4 rfl rfl (fun c2 => ?_) (fun c2 => ?_)
  · have h2 := h1.1 c2
    exact h2
  · have h2 := h1.2 c2
    refine r_aload_n ok175 5 rfl rfl rfl ?_
    refine r_iconst (v := 0) ok175 6 rfl rfl rfl ?_
    refine r_invVi (as := [.int 0]) (S := []) ok175 7 rfl rfl mf171 rfl rfl (Nat.le_of_ble_eq_true rfl) rfl h2 (fun v3 σ3 h3 => ?_)
    refine r_bipush (v := 10) ok175 8 rfl rfl rfl ?_
    refine r_icmp_ne ok175 9 rfl rfl (fun c4 => ?_) (fun c4 => ?_)
    · have h4 := h3.1 c4
      refine r_aload_n ok175 17 rfl rfl rfl ?_
      refine r_aload_n ok175 18 rfl rfl rfl ?_
      refine r_getI ok175 19 rfl rfl rfl rfl ?_
      refine r_putI ok175 20 rfl rfl rfl rfl ?_
      refine r_aload_n ok175 21 rfl rfl rfl ?_
      refine r_iconst (v := 0) ok175 22 rfl rfl rfl ?_
      refine r_invVi (as := [.int 0]) (S := []) ok175 23 rfl rfl mf171 rfl rfl (Nat.le_of_ble_eq_true rfl) rfl h4 (fun v5 σ5 h5 => ?_)
      refine r_istore_n ok175 24 rfl rfl ?_
      refine r_iconst (v := 0) ok175 25 rfl rfl rfl ?_
      refine r_istore_n ok175 26 rfl rfl ?_
      refine r_aload_n ok175 27 rfl rfl rfl ?_
      refine r_lconst (v := 0) ok175 28 rfl rfl rfl ?_
      refine r_putL ok175 29 rfl rfl rfl rfl ?_
      refine r_aload_n ok175 30 rfl rfl rfl ?_
      refine r_iconst (v := 0) ok175 31 rfl rfl rfl ?_
      refine r_putI ok175 32 rfl rfl rfl rfl ?_
      refine r_iload_n ok175 33 rfl rfl rfl ?_
      refine r_if_ge ok175 34 rfl rfl (fun c6 => ?_) (fun c6 => ?_)
      · have h6 := h5.1 c6
        refine r_iload_n ok175 39 rfl rfl rfl ?_
        refine r_invSi (as := [.int v5]) (S := []) ok175 40 rfl rfl mf172 rfl (Nat.le_of_ble_eq_true rfl) rfl h6 (fun v7 σ7 h7 => ?_)
        refine r_if_eq ok175 41 rfl rfl (fun c8 => ?_) (fun c8 => ?_)
        · have h8 := h7.1 c8
          refine r_iload_n ok175 72 rfl rfl rfl ?_
          refine r_invSi (as := [.int v5]) (S := []) ok175 73 rfl rfl mf173 rfl (Nat.le_of_ble_eq_true rfl) rfl h8 (fun v9 σ9 h9 => ?_)
          refine r_if_eq ok175 74 rfl rfl (fun c10 => ?_) (fun c10 => ?_)
          · have h10 := h9.1 c10
            refine r_iconst (v := 1) ok175 111 rfl rfl rfl ?_
            refine r_istore_n ok175 112 rfl rfl ?_
            refine r_aload_n ok175 113 rfl rfl rfl ?_
            refine r_iload_n ok175 114 rfl rfl rfl ?_
            refine r_bipush (v := 59) ok175 115 rfl rfl rfl ?_
            refine r_icmp_eq ok175 116 rfl rfl (fun c11 => ?_) (fun c11 => ?_)
            · have h11 := h10.1 c11
              refine r_iload_n ok175 123 rfl rfl rfl ?_
              refine r_goto ok175 124 rfl rfl ?_
              refine r_putI ok175 126 rfl rfl rfl rfl ?_
              exact G.weak (L' := [some (.ref 124), none, some (.int 1)]) ⟨rfl, ⟨rfl, trivial⟩⟩ h11
            · have h11 := h10.2 c11
              refine r_aload_n ok175 117 rfl rfl rfl ?_
              refine r_getZ ok175 118 rfl rfl rfl rfl ?_
              refine r_if_eq ok175 119 rfl rfl (fun c12 => ?_) (fun c12 => ?_)
              · have h12 := h11.1 c12
                refine r_iconst (v := 3) ok175 125 rfl rfl rfl ?_
                refine r_putI ok175 126 rfl rfl rfl rfl ?_
                exact G.weak (L' := [some (.ref 124), none, some (.int 1)]) ⟨rfl, ⟨rfl, trivial⟩⟩ h12
              · have h12 := h11.2 c12
                refine r_iload_n ok175 120 rfl rfl rfl ?_
                refine r_invSi (as := [.int v5]) (S := [.ref 124]) ok175 121 rfl rfl mf174 rfl (Nat.le_of_ble_eq_true rfl) rfl h12 (fun v13 σ13 h13 => ?_)
                refine r_if_eq ok175 122 rfl rfl (fun c14 => ?_) (fun c14 => ?_)
                · have h14 := h13.1 c14
                  refine r_iconst (v := 3) ok175 125 rfl rfl rfl ?_
                  refine r_putI ok175 126 rfl rfl rfl rfl ?_
                  exact G.weak (L' := [some (.ref 124), none, some (.int 1)]) ⟨rfl, ⟨rfl, trivial⟩⟩ h14
                · have h14 := h13.2 c14
                  refine r_iload_n ok175 123 rfl rfl rfl ?_
                  refine r_goto ok175 124 rfl rfl ?_
                  refine r_putI ok175 126 rfl rfl rfl rfl ?_
                  exact G.weak (L' := [some (.ref 124), none, some (.int 1)]) ⟨rfl, ⟨rfl, trivial⟩⟩ h14
          · have h10 := h9.2 c10
            exact G.weak (L' := [some (.ref 124), none, some (.int 0)]) ⟨rfl, ⟨rfl, trivial⟩⟩ h10
        · have h8 := h7.2 c8
          exact G.weak (L' := [some (.ref 124), none, some (.int 0)]) ⟨rfl, ⟨rfl, trivial⟩⟩ h8
      · have h6 := h5.2 c6
        refine r_aload_n ok175 35 rfl rfl rfl ?_
        refine r_iconst (v := 0) ok175 36 rfl rfl rfl ?_
        refine r_putI ok175 37 rfl rfl rfl rfl ?_
        refine r_goto ok175 38 rfl rfl ?_
        exact G.weak (L' := [some (.ref 124), none, some (.int 0)]) ⟨rfl, ⟨rfl, trivial⟩⟩ h6
    · have h4 := h3.2 c4
      exact h4

set_option maxRecDepth 100000 in
set_option maxHeartbeats 4000000 in
theorem B175_20 {Θ : Th} {d : Nat} {σ : Mem} {Q : Po} 
    (h : G Θ (d + 1) 175 0 [some (.ref 124), none, none] [] (sI σ 124 4 ((σ.1 124 4) + 1)) Q) :
    G Θ (d + 1) 175 20 [some (.ref 124), none, none] [] σ Q := by
  refine r_aload_n ok175 10 rfl rfl rfl ?_
  refine r_dup ok175 11 rfl rfl rfl ?_
  refine r_getI ok175 12 rfl rfl rfl rfl ?_
  refine r_iconst (v := 1) ok175 13 rfl rfl rfl ?_
  refine r_iadd ok175 14 rfl rfl ?_
  refine r_putI ok175 15 rfl rfl rfl rfl ?_
  refine r_goto ok175 16 rfl rfl ?_
  exact h

set_option maxRecDepth 100000 in
set_option maxHeartbeats 4000000 in
theorem B175_245 {Θ : Th} {d : Nat} {σ : Mem} {Q : Po} {x2 : Int32} 
    (h : (((σ.1 124 6) = 3 → G Θ (d + 1) 175 263 [none, none, none] [] σ Q) ∧ (¬ (σ.1 124 6) = 3 → G Θ (d + 1) 175 263 [none, none, none] [] (sI σ 124 4 ((σ.1 124 4) + x2)) Q))) :
    G Θ (d + 1) 175 245 [some (.ref 124), none, some (.int x2)] [] σ Q := by
  refine r_aload_n ok175 127 rfl rfl rfl ?_
  refine r_getI ok175 128 rfl rfl rfl rfl ?_
  refine r_iconst (v := 3) ok175 129 rfl rfl rfl ?_
  refine r_icmp_eq ok175 130 rfl rfl (fun c1 => ?_) (fun c1 => ?_)
  · have h1 := h.1 c1
    exact G.weak (L' := [none, none, none]) trivial h1
  · have h1 := h.2 c1
    refine r_aload_n ok175 131 rfl rfl rfl ?_
    refine r_dup ok175 132 rfl rfl rfl ?_
    refine r_getI ok175 133 rfl rfl rfl rfl ?_
    refine r_iload_n ok175 134 rfl rfl rfl ?_
    refine r_iadd ok175 135 rfl rfl ?_
    refine r_putI ok175 136 rfl rfl rfl rfl ?_
    exact G.weak (L' := [none, none, none]) trivial h1

set_option maxRecDepth 100000 in
set_option maxHeartbeats 4000000 in
theorem B175_144 {Θ : Th} {d : Nat} {σ : Mem} {Q : Po} {x2 : Int32} 
    (h : Ci Θ d 171 [.ref 124, .int x2] σ (fun v1 σ1 => Ci Θ d 173 [.int v1] σ1 (fun v2 σ2 => ((v2 = 0 → ((4 < x2 → G Θ (d + 1) 175 245 [some (.ref 124), none, some (.int x2)] [] (sI σ2 124 6 3) Q) ∧ (¬ 4 < x2 → Ci Θ d 171 [.ref 124, .int x2] σ2 (fun v5 σ5 => Ci Θ d 172 [.int v5] σ5 (fun v6 σ6 => ((v6 = 0 → G Θ (d + 1) 175 245 [some (.ref 124), none, some (.int x2)] [] (sI σ6 124 6 2) Q) ∧ (¬ v6 = 0 → G Θ (d + 1) 175 245 [some (.ref 124), none, some (.int x2)] [] (sI σ6 124 6 3) Q))))))) ∧ (¬ v2 = 0 → ((4 ≤ x2 → G Θ (d + 1) 175 180 [some (.ref 124), none, some (.int x2)] [] σ2 Q) ∧ (¬ 4 ≤ x2 → Ci Θ d 171 [.ref 124, .int x2] σ2 (fun v9 σ9 => G Θ (d + 1) 175 180 [some (.ref 124), none, some (.int x2)] [] (sI σ9 124 8 (((10 * (σ2.1 124 8)) + v9) - 48)) Q)))))))) :
    G Θ (d + 1) 175 144 [some (.ref 124), none, some (.int x2)] [] σ Q := by
  refine r_aload_n ok175 75 rfl rfl rfl ?_
  refine r_iload_n ok175 76 rfl rfl rfl ?_
  refine r_invVi (as := [.int x2]) (S := []) ok175 77 rfl rfl mf171 rfl rfl (Nat.le_of_ble_eq_true rfl) rfl h (fun v1 σ1 h1 => ?_)
  refine r_invSi (as := [.int v1]) (S := []) ok175 78 rfl rfl mf173 rfl (Nat.le_of_ble_eq_true rfl) rfl h1 (fun v2 σ2 h2 => ?_)
  refine r_if_eq ok175 79 rfl rfl (fun c3 => ?_) (fun c3 => ?_)
  · have h3 := h2.1 c3
    refine r_aload_n ok175 97 rfl rfl rfl ?_
    refine r_iload_n ok175 98 rfl rfl rfl ?_
    refine r_iconst (v := 4) ok175 99 rfl rfl rfl ?_
    refine r_icmp_gt ok175 100 rfl rfl (fun c4 => ?_) (fun c4 => ?_)
    · have h4 := h3.1 c4
      refine r_iconst (v := 3) ok175 106 rfl rfl rfl ?_
      refine r_goto ok175 107 rfl rfl ?_
      refine r_putI ok175 109 rfl rfl rfl rfl ?_
      refine r_goto ok175 110 rfl rfl ?_
      exact h4
    · have h4 := h3.2 c4
      refine r_aload_n ok175 101 rfl rfl rfl ?_
      refine r_iload_n ok175 102 rfl rfl rfl ?_
      refine r_invVi (as := [.int x2]) (S := [.ref 124]) ok175 103 rfl rfl mf171 rfl rfl (Nat.le_of_ble_eq_true rfl) rfl h4 (fun v5 σ5 h5 => ?_)
      refine r_invSi (as := [.int v5]) (S := [.ref 124]) ok175 104 rfl rfl mf172 rfl (Nat.le_of_ble_eq_true rfl) rfl h5 (fun v6 σ6 h6 => ?_)
      refine r_if_eq ok175 105 rfl rfl (fun c7 => ?_) (fun c7 => ?_)
      · have h7 := h6.1 c7
        refine r_iconst (v := 2) ok175 108 rfl rfl rfl ?_
        refine r_putI ok175 109 rfl rfl rfl rfl ?_
        refine r_goto ok175 110 rfl rfl ?_
        exact h7
      · have h7 := h6.2 c7
        refine r_iconst (v := 3) ok175 106 rfl rfl rfl ?_
        refine r_goto ok175 107 rfl rfl ?_
        refine r_putI ok175 109 rfl rfl rfl rfl ?_
        refine r_goto ok175 110 rfl rfl ?_
        exact h7
  · have h3 := h2.2 c3
    refine r_iload_n ok175 80 rfl rfl rfl ?_
    refine r_iconst (v := 4) ok175 81 rfl rfl rfl ?_
    refine r_icmp_ge ok175 82 rfl rfl (fun c8 => ?_) (fun c8 => ?_)
    · have h8 := h3.1 c8
      exact h8
    · have h8 := h3.2 c8
      refine r_aload_n ok175 83 rfl rfl rfl ?_
      refine r_bipush (v := 10) ok175 84 rfl rfl rfl ?_
      refine r_aload_n ok175 85 rfl rfl rfl ?_
      refine r_getI ok175 86 rfl rfl rfl rfl ?_
      refine r_imul ok175 87 rfl rfl ?_
      refine r_aload_n ok175 88 rfl rfl rfl ?_
      refine r_iload_n ok175 89 rfl rfl rfl ?_
      refine r_invVi (as := [.int x2]) (S := [.int (10 * (σ2.1 124 8)), .ref 124]) ok175 90 rfl rfl mf171 rfl rfl (Nat.le_of_ble_eq_true rfl) rfl h8 (fun v9 σ9 h9 => ?_)
      refine r_iadd ok175 91 rfl rfl ?_
      refine r_bipush (v := 48) ok175 92 rfl rfl rfl ?_
      refine r_isub ok175 93 rfl rfl ?_
      refine r_putI ok175 94 rfl rfl rfl rfl ?_
      exact h9

set_option maxRecDepth 100000 in
set_option maxHeartbeats 4000000 in
theorem B175_78 {Θ : Th} {d : Nat} {σ : Mem} {Q : Po} {x2 : Int32} 
    (h : Ci Θ d 171 [.ref 124, .int x2] σ (fun v1 σ1 => Ci Θ d 172 [.int v1] σ1 (fun v2 σ2 => ((v2 = 0 → ((x2 ≤ 8 → G Θ (d + 1) 175 245 [some (.ref 124), none, some (.int x2)] [] (sI σ2 124 6 1) Q) ∧ (¬ x2 ≤ 8 → G Θ (d + 1) 175 245 [some (.ref 124), none, some (.int x2)] [] (sI σ2 124 6 3) Q))) ∧ (¬ v2 = 0 → ((8 ≤ x2 → G Θ (d + 1) 175 113 [some (.ref 124), none, some (.int x2)] [] σ2 Q) ∧ (¬ 8 ≤ x2 → Ci Θ d 171 [.ref 124, .int x2] σ2 (fun v6 σ6 => G Θ (d + 1) 175 113 [some (.ref 124), none, some (.int x2)] [] (sL σ6 124 9 (((σ2.2.1 124 9) <<< ((8 : Int32).toInt64 &&& 63)) ||| v6.toInt64)) Q)))))))) :
    G Θ (d + 1) 175 78 [some (.ref 124), none, some (.int x2)] [] σ Q := by
  refine r_aload_n ok175 42 rfl rfl rfl ?_
  refine r_iload_n ok175 43 rfl rfl rfl ?_
  refine r_invVi (as := [.int x2]) (S := []) ok175 44 rfl rfl mf171 rfl rfl (Nat.le_of_ble_eq_true rfl) rfl h (fun v1 σ1 h1 => ?_)
  refine r_invSi (as := [.int v1]) (S := []) ok175 45 rfl rfl mf172 rfl (Nat.le_of_ble_eq_true rfl) rfl h1 (fun v2 σ2 h2 => ?_)
  refine r_if_eq ok175 46 rfl rfl (fun c3 => ?_) (fun c3 => ?_)
  · have h3 := h2.1 c3
    refine r_aload_n ok175 63 rfl rfl rfl ?_
    refine r_iload_n ok175 64 rfl rfl rfl ?_
    refine r_bipush (v := 8) ok175 65 rfl rfl rfl ?_
    refine r_icmp_le ok175 66 rfl rfl (fun c4 => ?_) (fun c4 => ?_)
    · have h4 := h3.1 c4
      refine r_iconst (v := 1) ok175 69 rfl rfl rfl ?_
      refine r_putI ok175 70 rfl rfl rfl rfl ?_
      refine r_goto ok175 71 rfl rfl ?_
      exact h4
    · have h4 := h3.2 c4
      refine r_iconst (v := 3) ok175 67 rfl rfl rfl ?_
      refine r_goto ok175 68 rfl rfl ?_
      refine r_putI ok175 70 rfl rfl rfl rfl ?_
      refine r_goto ok175 71 rfl rfl ?_
      exact h4
  · have h3 := h2.2 c3
    refine r_iload_n ok175 47 rfl rfl rfl ?_
    refine r_bipush (v := 8) ok175 48 rfl rfl rfl ?_
    refine r_icmp_ge ok175 49 rfl rfl (fun c5 => ?_) (fun c5 => ?_)
    · have h5 := h3.1 c5
      exact h5
    · have h5 := h3.2 c5
      refine r_aload_n ok175 50 rfl rfl rfl ?_
      refine r_aload_n ok175 51 rfl rfl rfl ?_
      refine r_getL ok175 52 rfl rfl rfl rfl ?_
      refine r_bipush (v := 8) ok175 53 rfl rfl rfl ?_
      refine r_lshl ok175 54 rfl rfl ?_
      refine r_aload_n ok175 55 rfl rfl rfl ?_
      refine r_iload_n ok175 56 rfl rfl rfl ?_
      refine r_invVi (as := [.int x2]) (S := [.long ((σ2.2.1 124 9) <<< ((8 : Int32).toInt64 &&& 63)), .ref 124]) ok175 57 rfl rfl mf171 rfl rfl (Nat.le_of_ble_eq_true rfl) rfl h5 (fun v6 σ6 h6 => ?_)
      refine r_i2l ok175 58 rfl rfl ?_
      refine r_lor ok175 59 rfl rfl ?_
      refine r_putL ok175 60 rfl rfl rfl rfl ?_
      exact h6

set_option maxRecDepth 100000 in
set_option maxHeartbeats 4000000 in
theorem B175_263 {Θ : Th} {d : Nat} {σ : Mem} {Q : Po} 
    (h : Q none σ) :
    G Θ (d + 1) 175 263 [none, none, none] [] σ Q := by
  exact r_ret ok175 137 rfl rfl rfl h

set_option maxRecDepth 100000 in
set_option maxHeartbeats 4000000 in
theorem B175_180 {Θ : Th} {d : Nat} {σ : Mem} {Q : Po} {x2 : Int32} 
    (h : G Θ (d + 1) 175 144 [some (.ref 124), none, some (.int (x2 + 1))] [] σ Q) :
    G Θ (d + 1) 175 180 [some (.ref 124), none, some (.int x2)] [] σ Q := by
  refine r_iinc (v := x2 + 1) ok175 95 rfl rfl rfl rfl ?_
  refine r_goto ok175 96 rfl rfl ?_
  exact h

set_option maxRecDepth 100000 in
set_option maxHeartbeats 4000000 in
theorem B175_113 {Θ : Th} {d : Nat} {σ : Mem} {Q : Po} {x2 : Int32} 
    (h : G Θ (d + 1) 175 78 [some (.ref 124), none, some (.int (x2 + 1))] [] σ Q) :
    G Θ (d + 1) 175 113 [some (.ref 124), none, some (.int x2)] [] σ Q := by
  refine r_iinc (v := x2 + 1) ok175 61 rfl rfl rfl rfl ?_
  refine r_goto ok175 62 rfl rfl ?_
  exact h

theorem K175 {Θ : Th} {d : Nat} {σ : Mem} {Q : Po} (h : G Θ (d + 1) 175 0 [some (.ref 124), none, none] [] σ Q) : Cm Θ (d + 1) 175 [.ref 124] σ Q :=
  C_of_G okM175 (Nat.le_of_ble_eq_true rfl) rfl h

-- 176: LikeYearsModel.wrong(I)V
set_option maxRecDepth 100000 in
set_option maxHeartbeats 4000000 in
theorem B176_0 {Θ : Th} {d : Nat} {σ : Mem} {Q : Po} {x1 : Int32} 
    (h : (((σ.1 124 2) ≤ 0 → ((¬ (σ.1 124 6) = 3 → Q none (sI (sI σ 124 2 x1) 124 3 ((sI σ 124 2 x1).1 124 7))) ∧ ((σ.1 124 6) = 3 → Q none (sI (sI σ 124 2 1) 124 3 ((sI σ 124 2 1).1 124 7))))) ∧ (¬ (σ.1 124 2) ≤ 0 → Q none σ))) :
    G Θ d 176 0 [some (.ref 124), some (.int x1)] [] σ Q := by
  refine r_aload_n ok176 0 rfl rfl rfl ?_
  refine r_getI ok176 1 rfl rfl rfl rfl ?_
  refine r_if_le ok176 2 rfl rfl (fun c1 => ?_) (fun c1 => ?_)
  · have h1 := h.1 c1
    refine r_aload_n ok176 4 rfl rfl rfl ?_
    refine r_aload_n ok176 5 rfl rfl rfl ?_
    refine r_getI ok176 6 rfl rfl rfl rfl ?_
    refine r_iconst (v := 3) ok176 7 rfl rfl rfl ?_
    refine r_icmp_ne ok176 8 rfl rfl (fun c2 => ?_) (fun c2 => ?_)
    · have h2 := h1.1 c2
      refine r_iload_n ok176 11 rfl rfl rfl ?_
      refine r_putI ok176 12 rfl rfl rfl rfl ?_
      refine r_aload_n ok176 13 rfl rfl rfl ?_
      refine r_aload_n ok176 14 rfl rfl rfl ?_
      refine r_getI ok176 15 rfl rfl rfl rfl ?_
      refine r_putI ok176 16 rfl rfl rfl rfl ?_
      exact r_ret ok176 17 rfl rfl rfl h2
    · have h2 := h1.2 c2
      refine r_iconst (v := 1) ok176 9 rfl rfl rfl ?_
      refine r_goto ok176 10 rfl rfl ?_
      refine r_putI ok176 12 rfl rfl rfl rfl ?_
      refine r_aload_n ok176 13 rfl rfl rfl ?_
      refine r_aload_n ok176 14 rfl rfl rfl ?_
      refine r_getI ok176 15 rfl rfl rfl rfl ?_
      refine r_putI ok176 16 rfl rfl rfl rfl ?_
      exact r_ret ok176 17 rfl rfl rfl h2
  · have h1 := h.2 c1
    exact r_ret ok176 3 rfl rfl rfl h1

theorem K176 {Θ : Th} {d : Nat} {σ : Mem} {Q : Po} {x1 : Int32} (h : G Θ d 176 0 [some (.ref 124), some (.int x1)] [] σ Q) : Cm Θ d 176 [.ref 124, .int x1] σ Q :=
  C_of_G okM176 (Nat.le_of_ble_eq_true rfl) rfl h

-- 177: LikeYearsModel.isWord(J)Z
set_option maxRecDepth 100000 in
set_option maxHeartbeats 4000000 in
theorem B177_0 {Θ : Th} {d : Nat} {σ : Mem} {Q : Po} {x1 : Int64} 
    (h : ((¬ (σ.1 124 6) = 1 → Q (some (.int 0)) σ) ∧ ((σ.1 124 6) = 1 → ((¬ (lg_cmp (σ.2.1 124 9) x1) = 0 → Q (some (.int 0)) σ) ∧ ((lg_cmp (σ.2.1 124 9) x1) = 0 → Q (some (.int 1)) σ))))) :
    G Θ d 177 0 [some (.ref 124), some (.long x1), none] [] σ Q := by
  refine r_aload_n ok177 0 rfl rfl rfl ?_
  refine r_getI ok177 1 rfl rfl rfl rfl ?_
  refine r_iconst (v := 1) ok177 2 rfl rfl rfl ?_
  refine r_icmp_ne ok177 3 rfl rfl (fun c1 => ?_) (fun c1 => ?_)
  · have h1 := h.1 c1
    refine r_iconst (v := 0) ok177 11 rfl rfl rfl ?_
    exact r_zret ok177 12 rfl rfl rfl (Or.inl rfl) h1
  · have h1 := h.2 c1
    refine r_aload_n ok177 4 rfl rfl rfl ?_
    refine r_getL ok177 5 rfl rfl rfl rfl ?_
    refine r_lload_n ok177 6 rfl rfl rfl ?_
    refine r_lcmp ok177 7 rfl rfl ?_
    refine r_if_ne ok177 8 rfl rfl (fun c2 => ?_) (fun c2 => ?_)
    · have h2 := h1.1 c2
      refine r_iconst (v := 0) ok177 11 rfl rfl rfl ?_
      exact r_zret ok177 12 rfl rfl rfl (Or.inl rfl) h2
    · have h2 := h1.2 c2
      refine r_iconst (v := 1) ok177 9 rfl rfl rfl ?_
      refine r_goto ok177 10 rfl rfl ?_
      exact r_zret ok177 12 rfl rfl rfl (Or.inr rfl) h2

theorem K177 {Θ : Th} {d : Nat} {σ : Mem} {Q : Po} {x1 : Int64} (h : G Θ d 177 0 [some (.ref 124), some (.long x1), none] [] σ Q) : Cm Θ d 177 [.ref 124, .long x1] σ Q :=
  C_of_G okM177 (Nat.le_of_ble_eq_true rfl) rfl h

-- 178: LikeYearsModel.isName()Z
set_option maxRecDepth 100000 in
set_option maxHeartbeats 4000000 in
theorem B178_0 {Θ : Th} {d : Nat} {σ : Mem} {Q : Po} 
    (h : Ci Θ d 179 [.ref 124] σ (fun v1 σ1 => ((v1 = 0 → Q (some (.int 0)) σ1) ∧ (¬ v1 = 0 → (((lg_cmp (σ1.2.1 124 9) 1835102827) = 0 → Q (some (.int 0)) σ1) ∧ (¬ (lg_cmp (σ1.2.1 124 9) 1835102827) = 0 → (((lg_cmp (σ1.2.1 124 9) 29807) = 0 → Q (some (.int 0)) σ1) ∧ (¬ (lg_cmp (σ1.2.1 124 9) 29807) = 0 → (((lg_cmp (σ1.2.1 124 9) 474148660594) = 0 → Q (some (.int 0)) σ1) ∧ (¬ (lg_cmp (σ1.2.1 124 9) 474148660594) = 0 → (((lg_cmp (σ1.2.1 124 9) 1667330917) = 0 → Q (some (.int 0)) σ1) ∧ (¬ (lg_cmp (σ1.2.1 124 9) 1667330917) = 0 → (((lg_cmp (σ1.2.1 124 9) 457236047717) = 0 → Q (some (.int 0)) σ1) ∧ (¬ (lg_cmp (σ1.2.1 124 9) 457236047717) = 0 → (((lg_cmp (σ1.2.1 124 9) 26990) = 0 → Q (some (.int 0)) σ1) ∧ (¬ (lg_cmp (σ1.2.1 124 9) 26990) = 0 → (((lg_cmp (σ1.2.1 124 9) 444150998382) = 0 → Q (some (.int 0)) σ1) ∧ (¬ (lg_cmp (σ1.2.1 124 9) 444150998382) = 0 → (((lg_cmp (σ1.2.1 124 9) 131277443786868) = 0 → Q (some (.int 0)) σ1) ∧ (¬ (lg_cmp (σ1.2.1 124 9) 131277443786868) = 0 → (((lg_cmp (σ1.2.1 124 9) 1953459300) = 0 → Q (some (.int 0)) σ1) ∧ (¬ (lg_cmp (σ1.2.1 124 9) 1953459300) = 0 → (((lg_cmp (σ1.2.1 124 9) 1870030194) = 0 → Q (some (.int 0)) σ1) ∧ (¬ (lg_cmp (σ1.2.1 124 9) 1870030194) = 0 → Q (some (.int 1)) σ1)))))))))))))))))))))))) :
    G Θ (d + 1) 178 0 [some (.ref 124)] [] σ Q := by
  refine r_aload_n ok178 0 rfl rfl rfl ?_
  refine r_invVi (as := []) (S := []) ok178 1 rfl rfl mf179 rfl rfl (Nat.le_of_ble_eq_true rfl) rfl h (fun v1 σ1 h1 => ?_)
  refine r_if_eq ok178 2 rfl rfl (fun c2 => ?_) (fun c2 => ?_)
  · have h2 := h1.1 c2
    refine r_iconst (v := 0) ok178 55 rfl rfl rfl ?_
    exact r_zret ok178 56 rfl rfl rfl (Or.inl rfl) h2
  · have h2 := h1.2 c2
    refine r_aload_n ok178 3 rfl rfl rfl ?_
    refine r_getL ok178 4 rfl rfl rfl rfl ?_
    refine r_ldc2_w (v := 1835102827) ok178 5 rfl rfl rfl ?_
    refine r_lcmp ok178 6 rfl rfl ?_
    refine r_if_eq ok178 7 rfl rfl (fun c3 => ?_) (fun c3 => ?_)
    · have h3 := h2.1 c3
      refine r_iconst (v := 0) ok178 55 rfl rfl rfl ?_
      exact r_zret ok178 56 rfl rfl rfl (Or.inl rfl) h3
    · have h3 := h2.2 c3
      refine r_aload_n ok178 8 rfl rfl rfl ?_
      refine r_getL ok178 9 rfl rfl rfl rfl ?_
      refine r_ldc2_w (v := 29807) ok178 10 rfl rfl rfl ?_
      refine r_lcmp ok178 11 rfl rfl ?_
      refine r_if_eq ok178 12 rfl rfl (fun c4 => ?_) (fun c4 => ?_)
      · have h4 := h3.1 c4
        refine r_iconst (v := 0) ok178 55 rfl rfl rfl ?_
        exact r_zret ok178 56 rfl rfl rfl (Or.inl rfl) h4
      · have h4 := h3.2 c4
        refine r_aload_n ok178 13 rfl rfl rfl ?_
        refine r_getL ok178 14 rfl rfl rfl rfl ?_
        refine r_ldc2_w (v := 474148660594) ok178 15 rfl rfl rfl ?_
        refine r_lcmp ok178 16 rfl rfl ?_
        refine r_if_eq ok178 17 rfl rfl (fun c5 => ?_) (fun c5 => ?_)
        · have h5 := h4.1 c5
          refine r_iconst (v := 0) ok178 55 rfl rfl rfl ?_
          exact r_zret ok178 56 rfl rfl rfl (Or.inl rfl) h5
        · have h5 := h4.2 c5
          refine r_aload_n ok178 18 rfl rfl rfl ?_
          refine r_getL ok178 19 rfl rfl rfl rfl ?_
          refine r_ldc2_w (v := 1667330917) ok178 20 rfl rfl rfl ?_
          refine r_lcmp ok178 21 rfl rfl ?_
          refine r_if_eq ok178 22 rfl rfl (fun c6 => ?_) (fun c6 => ?_)
          · have h6 := h5.1 c6
            refine r_iconst (v := 0) ok178 55 rfl rfl rfl ?_
            exact r_zret ok178 56 rfl rfl rfl (Or.inl rfl) h6
          · have h6 := h5.2 c6
            refine r_aload_n ok178 23 rfl rfl rfl ?_
            refine r_getL ok178 24 rfl rfl rfl rfl ?_
            refine r_ldc2_w (v := 457236047717) ok178 25 rfl rfl rfl ?_
            refine r_lcmp ok178 26 rfl rfl ?_
            refine r_if_eq ok178 27 rfl rfl (fun c7 => ?_) (fun c7 => ?_)
            · have h7 := h6.1 c7
              refine r_iconst (v := 0) ok178 55 rfl rfl rfl ?_
              exact r_zret ok178 56 rfl rfl rfl (Or.inl rfl) h7
            · have h7 := h6.2 c7
              refine r_aload_n ok178 28 rfl rfl rfl ?_
              refine r_getL ok178 29 rfl rfl rfl rfl ?_
              refine r_ldc2_w (v := 26990) ok178 30 rfl rfl rfl ?_
              refine r_lcmp ok178 31 rfl rfl ?_
              refine r_if_eq ok178 32 rfl rfl (fun c8 => ?_) (fun c8 => ?_)
              · have h8 := h7.1 c8
                refine r_iconst (v := 0) ok178 55 rfl rfl rfl ?_
                exact r_zret ok178 56 rfl rfl rfl (Or.inl rfl) h8
              · have h8 := h7.2 c8
                refine r_aload_n ok178 33 rfl rfl rfl ?_
                refine r_getL ok178 34 rfl rfl rfl rfl ?_
                refine r_ldc2_w (v := 444150998382) ok178 35 rfl rfl rfl ?_
                refine r_lcmp ok178 36 rfl rfl ?_
                refine r_if_eq ok178 37 rfl rfl (fun c9 => ?_) (fun c9 => ?_)
                · have h9 := h8.1 c9
                  refine r_iconst (v := 0) ok178 55 rfl rfl rfl ?_
                  exact r_zret ok178 56 rfl rfl rfl (Or.inl rfl) h9
                · have h9 := h8.2 c9
                  refine r_aload_n ok178 38 rfl rfl rfl ?_
                  refine r_getL ok178 39 rfl rfl rfl rfl ?_
                  refine r_ldc2_w (v := 131277443786868) ok178 40 rfl rfl rfl ?_
                  refine r_lcmp ok178 41 rfl rfl ?_
                  refine r_if_eq ok178 42 rfl rfl (fun c10 => ?_) (fun c10 => ?_)
                  · have h10 := h9.1 c10
                    refine r_iconst (v := 0) ok178 55 rfl rfl rfl ?_
                    exact r_zret ok178 56 rfl rfl rfl (Or.inl rfl) h10
                  · have h10 := h9.2 c10
                    refine r_aload_n ok178 43 rfl rfl rfl ?_
                    refine r_getL ok178 44 rfl rfl rfl rfl ?_
                    refine r_ldc2_w (v := 1953459300) ok178 45 rfl rfl rfl ?_
                    refine r_lcmp ok178 46 rfl rfl ?_
                    refine r_if_eq ok178 47 rfl rfl (fun c11 => ?_) (fun c11 => ?_)
                    · have h11 := h10.1 c11
                      refine r_iconst (v := 0) ok178 55 rfl rfl rfl ?_
                      exact r_zret ok178 56 rfl rfl rfl (Or.inl rfl) h11
                    · have h11 := h10.2 c11
                      refine r_aload_n ok178 48 rfl rfl rfl ?_
                      refine r_getL ok178 49 rfl rfl rfl rfl ?_
                      refine r_ldc2_w (v := 1870030194) ok178 50 rfl rfl rfl ?_
                      refine r_lcmp ok178 51 rfl rfl ?_
                      refine r_if_eq ok178 52 rfl rfl (fun c12 => ?_) (fun c12 => ?_)
                      · have h12 := h11.1 c12
                        refine r_iconst (v := 0) ok178 55 rfl rfl rfl ?_
                        exact r_zret ok178 56 rfl rfl rfl (Or.inl rfl) h12
                      · have h12 := h11.2 c12
                        refine r_iconst (v := 1) ok178 53 rfl rfl rfl ?_
                        refine r_goto ok178 54 rfl rfl ?_
                        exact r_zret ok178 56 rfl rfl rfl (Or.inr rfl) h12

theorem K178 {Θ : Th} {d : Nat} {σ : Mem} {Q : Po} (h : G Θ (d + 1) 178 0 [some (.ref 124)] [] σ Q) : Cm Θ (d + 1) 178 [.ref 124] σ Q :=
  C_of_G okM178 (Nat.le_of_ble_eq_true rfl) rfl h

-- 179: LikeYearsModel.isNoLawWord()Z
set_option maxRecDepth 100000 in
set_option maxHeartbeats 4000000 in
theorem B179_0 {Θ : Th} {d : Nat} {σ : Mem} {Q : Po} 
    (h : ((¬ (σ.1 124 6) = 1 → Q (some (.int 0)) σ) ∧ ((σ.1 124 6) = 1 → (((lg_cmp (σ.2.1 124 9) 2003330414) = 0 → Q (some (.int 0)) σ) ∧ (¬ (lg_cmp (σ.2.1 124 9) 2003330414) = 0 → (((lg_cmp (σ.2.1 124 9) 465557353332) = 0 → Q (some (.int 0)) σ) ∧ (¬ (lg_cmp (σ.2.1 124 9) 465557353332) = 0 → (((lg_cmp (σ.2.1 124 9) 1836020596) = 0 → Q (some (.int 0)) σ) ∧ (¬ (lg_cmp (σ.2.1 124 9) 1836020596) = 0 → (((lg_cmp (σ.2.1 124 9) 28530) = 0 → Q (some (.int 0)) σ) ∧ (¬ (lg_cmp (σ.2.1 124 9) 28530) = 0 → (((lg_cmp (σ.2.1 124 9) 6385252) = 0 → Q (some (.int 0)) σ) ∧ (¬ (lg_cmp (σ.2.1 124 9) 6385252) = 0 → (((lg_cmp (σ.2.1 124 9) 7237492) = 0 → Q (some (.int 0)) σ) ∧ (¬ (lg_cmp (σ.2.1 124 9) 7237492) = 0 → Q (some (.int 1)) σ))))))))))))))) :
    G Θ d 179 0 [some (.ref 124)] [] σ Q := by
  refine r_aload_n ok179 0 rfl rfl rfl ?_
  refine r_getI ok179 1 rfl rfl rfl rfl ?_
  refine r_iconst (v := 1) ok179 2 rfl rfl rfl ?_
  refine r_icmp_ne ok179 3 rfl rfl (fun c1 => ?_) (fun c1 => ?_)
  · have h1 := h.1 c1
    refine r_iconst (v := 0) ok179 36 rfl rfl rfl ?_
    exact r_zret ok179 37 rfl rfl rfl (Or.inl rfl) h1
  · have h1 := h.2 c1
    refine r_aload_n ok179 4 rfl rfl rfl ?_
    refine r_getL ok179 5 rfl rfl rfl rfl ?_
    refine r_ldc2_w (v := 2003330414) ok179 6 rfl rfl rfl ?_
    refine r_lcmp ok179 7 rfl rfl ?_
    refine r_if_eq ok179 8 rfl rfl (fun c2 => ?_) (fun c2 => ?_)
    · have h2 := h1.1 c2
      refine r_iconst (v := 0) ok179 36 rfl rfl rfl ?_
      exact r_zret ok179 37 rfl rfl rfl (Or.inl rfl) h2
    · have h2 := h1.2 c2
      refine r_aload_n ok179 9 rfl rfl rfl ?_
      refine r_getL ok179 10 rfl rfl rfl rfl ?_
      refine r_ldc2_w (v := 465557353332) ok179 11 rfl rfl rfl ?_
      refine r_lcmp ok179 12 rfl rfl ?_
      refine r_if_eq ok179 13 rfl rfl (fun c3 => ?_) (fun c3 => ?_)
      · have h3 := h2.1 c3
        refine r_iconst (v := 0) ok179 36 rfl rfl rfl ?_
        exact r_zret ok179 37 rfl rfl rfl (Or.inl rfl) h3
      · have h3 := h2.2 c3
        refine r_aload_n ok179 14 rfl rfl rfl ?_
        refine r_getL ok179 15 rfl rfl rfl rfl ?_
        refine r_ldc2_w (v := 1836020596) ok179 16 rfl rfl rfl ?_
        refine r_lcmp ok179 17 rfl rfl ?_
        refine r_if_eq ok179 18 rfl rfl (fun c4 => ?_) (fun c4 => ?_)
        · have h4 := h3.1 c4
          refine r_iconst (v := 0) ok179 36 rfl rfl rfl ?_
          exact r_zret ok179 37 rfl rfl rfl (Or.inl rfl) h4
        · have h4 := h3.2 c4
          refine r_aload_n ok179 19 rfl rfl rfl ?_
          refine r_getL ok179 20 rfl rfl rfl rfl ?_
          refine r_ldc2_w (v := 28530) ok179 21 rfl rfl rfl ?_
          refine r_lcmp ok179 22 rfl rfl ?_
          refine r_if_eq ok179 23 rfl rfl (fun c5 => ?_) (fun c5 => ?_)
          · have h5 := h4.1 c5
            refine r_iconst (v := 0) ok179 36 rfl rfl rfl ?_
            exact r_zret ok179 37 rfl rfl rfl (Or.inl rfl) h5
          · have h5 := h4.2 c5
            refine r_aload_n ok179 24 rfl rfl rfl ?_
            refine r_getL ok179 25 rfl rfl rfl rfl ?_
            refine r_ldc2_w (v := 6385252) ok179 26 rfl rfl rfl ?_
            refine r_lcmp ok179 27 rfl rfl ?_
            refine r_if_eq ok179 28 rfl rfl (fun c6 => ?_) (fun c6 => ?_)
            · have h6 := h5.1 c6
              refine r_iconst (v := 0) ok179 36 rfl rfl rfl ?_
              exact r_zret ok179 37 rfl rfl rfl (Or.inl rfl) h6
            · have h6 := h5.2 c6
              refine r_aload_n ok179 29 rfl rfl rfl ?_
              refine r_getL ok179 30 rfl rfl rfl rfl ?_
              refine r_ldc2_w (v := 7237492) ok179 31 rfl rfl rfl ?_
              refine r_lcmp ok179 32 rfl rfl ?_
              refine r_if_eq ok179 33 rfl rfl (fun c7 => ?_) (fun c7 => ?_)
              · have h7 := h6.1 c7
                refine r_iconst (v := 0) ok179 36 rfl rfl rfl ?_
                exact r_zret ok179 37 rfl rfl rfl (Or.inl rfl) h7
              · have h7 := h6.2 c7
                refine r_iconst (v := 1) ok179 34 rfl rfl rfl ?_
                refine r_goto ok179 35 rfl rfl ?_
                exact r_zret ok179 37 rfl rfl rfl (Or.inr rfl) h7

theorem K179 {Θ : Th} {d : Nat} {σ : Mem} {Q : Po} (h : G Θ d 179 0 [some (.ref 124)] [] σ Q) : Cm Θ d 179 [.ref 124] σ Q :=
  C_of_G okM179 (Nat.le_of_ble_eq_true rfl) rfl h

-- 180: LikeYearsModel.want(J)V
set_option maxRecDepth 100000 in
set_option maxHeartbeats 4000000 in
theorem B180_0 {Θ : Th} {d : Nat} {σ : Mem} {Q : Po} {x1 : Int64} 
    (h : (((σ.1 124 2) ≤ 0 → Ci Θ d 177 [.ref 124, .long x1] σ (fun v2 σ2 => ((¬ v2 = 0 → Cv Θ d 175 [.ref 124] σ2 (fun σ4 => Q none σ4)) ∧ (v2 = 0 → Cv Θ d 176 [.ref 124, .int 2] σ2 (fun σ5 => Q none σ5))))) ∧ (¬ (σ.1 124 2) ≤ 0 → Q none σ))) :
    G Θ (d + 1) 180 0 [some (.ref 124), some (.long x1), none] [] σ Q := by
  refine r_aload_n ok180 0 rfl rfl rfl ?_
  refine r_getI ok180 1 rfl rfl rfl rfl ?_
  refine r_if_le ok180 2 rfl rfl (fun c1 => ?_) (fun c1 => ?_)
  · have h1 := h.1 c1
    refine r_aload_n ok180 4 rfl rfl rfl ?_
    refine r_lload_n ok180 5 rfl rfl rfl ?_
    refine r_invVi (as := [.long x1]) (S := []) ok180 6 rfl rfl mf177 rfl rfl (Nat.le_of_ble_eq_true rfl) rfl h1 (fun v2 σ2 h2 => ?_)
    refine r_if_ne ok180 7 rfl rfl (fun c3 => ?_) (fun c3 => ?_)
    · have h3 := h2.1 c3
      refine r_aload_n ok180 12 rfl rfl rfl ?_
      refine r_invVv (as := []) (S := []) ok180 13 rfl rfl mf175 rfl rfl (Nat.le_of_ble_eq_true rfl) rfl h3 (fun σ4 h4 => ?_)
      exact r_ret ok180 14 rfl rfl rfl h4
    · have h3 := h2.2 c3
      refine r_aload_n ok180 8 rfl rfl rfl ?_
      refine r_iconst (v := 2) ok180 9 rfl rfl rfl ?_
      refine r_invVv (as := [.int 2]) (S := []) ok180 10 rfl rfl mf176 rfl rfl (Nat.le_of_ble_eq_true rfl) rfl h3 (fun σ5 h5 => ?_)
      refine r_goto ok180 11 rfl rfl ?_
      exact r_ret ok180 14 rfl rfl rfl h5
  · have h1 := h.2 c1
    exact r_ret ok180 3 rfl rfl rfl h1

theorem K180 {Θ : Th} {d : Nat} {σ : Mem} {Q : Po} {x1 : Int64} (h : G Θ (d + 1) 180 0 [some (.ref 124), some (.long x1), none] [] σ Q) : Cm Θ (d + 1) 180 [.ref 124, .long x1] σ Q :=
  C_of_G okM180 (Nat.le_of_ble_eq_true rfl) rfl h

-- 181: LikeYearsModel.told(II)I
set_option maxRecDepth 100000 in
set_option maxHeartbeats 4000000 in
theorem B181_0 {Θ : Th} {d : Nat} {σ : Mem} {Q : Po} {x1 : Int32} {x2 : Int32} 
    (h : (((σ.1 124 2) ≤ 0 → (((σ.1 124 6) = 2 → (((σ.1 124 8) < x1 → Cv Θ d 176 [.ref 124, .int 4] σ (fun σ4 => ((¬ (σ4.1 124 2) = 0 → Q (some (.int (σ4.1 124 8))) σ4) ∧ ((σ4.1 124 2) = 0 → Cv Θ d 175 [.ref 124] σ4 (fun σ6 => Q (some (.int (σ4.1 124 8))) σ6))))) ∧ (¬ (σ.1 124 8) < x1 → (((σ.1 124 8) ≤ x2 → ((¬ (σ.1 124 2) = 0 → Q (some (.int (σ.1 124 8))) σ) ∧ ((σ.1 124 2) = 0 → Cv Θ d 175 [.ref 124] σ (fun σ9 => Q (some (.int (σ.1 124 8))) σ9)))) ∧ (¬ (σ.1 124 8) ≤ x2 → Cv Θ d 176 [.ref 124, .int 4] σ (fun σ10 => ((¬ (σ10.1 124 2) = 0 → Q (some (.int (σ10.1 124 8))) σ10) ∧ ((σ10.1 124 2) = 0 → Cv Θ d 175 [.ref 124] σ10 (fun σ12 => Q (some (.int (σ10.1 124 8))) σ12))))))))) ∧ (¬ (σ.1 124 6) = 2 → Cv Θ d 176 [.ref 124, .int 2] σ (fun σ13 => ((¬ (σ13.1 124 2) = 0 → Q (some (.int (σ13.1 124 8))) σ13) ∧ ((σ13.1 124 2) = 0 → Cv Θ d 175 [.ref 124] σ13 (fun σ15 => Q (some (.int (σ13.1 124 8))) σ15))))))) ∧ (¬ (σ.1 124 2) ≤ 0 → Q (some (.int 0)) σ))) :
    G Θ (d + 1) 181 0 [some (.ref 124), some (.int x1), some (.int x2), none] [] σ Q := by
  refine r_aload_n ok181 0 rfl rfl rfl ?_
  refine r_getI ok181 1 rfl rfl rfl rfl ?_
  refine r_if_le ok181 2 rfl rfl (fun c1 => ?_) (fun c1 => ?_)
  · have h1 := h.1 c1
    refine r_aload_n ok181 5 rfl rfl rfl ?_
    refine r_getI ok181 6 rfl rfl rfl rfl ?_
    refine r_iconst (v := 2) ok181 7 rfl rfl rfl ?_
    refine r_icmp_eq ok181 8 rfl rfl (fun c2 => ?_) (fun c2 => ?_)
    · have h2 := h1.1 c2
      refine r_aload_n ok181 13 rfl rfl rfl ?_
      refine r_getI ok181 14 rfl rfl rfl rfl ?_
      refine r_iload_n ok181 15 rfl rfl rfl ?_
      refine r_icmp_lt ok181 16 rfl rfl (fun c3 => ?_) (fun c3 => ?_)
      · have h3 := h2.1 c3
        refine r_aload_n ok181 21 rfl rfl rfl ?_
        refine r_iconst (v := 4) ok181 22 rfl rfl rfl ?_
        refine r_invVv (as := [.int 4]) (S := []) ok181 23 rfl rfl mf176 rfl rfl (Nat.le_of_ble_eq_true rfl) rfl h3 (fun σ4 h4 => ?_)
        refine r_aload_n ok181 24 rfl rfl rfl ?_
        refine r_getI ok181 25 rfl rfl rfl rfl ?_
        refine r_istore_n ok181 26 rfl rfl ?_
        refine r_aload_n ok181 27 rfl rfl rfl ?_
        refine r_getI ok181 28 rfl rfl rfl rfl ?_
        refine r_if_ne ok181 29 rfl rfl (fun c5 => ?_) (fun c5 => ?_)
        · have h5 := h4.1 c5
          refine r_iload_n ok181 32 rfl rfl rfl ?_
          exact r_iret ok181 33 rfl rfl rfl h5
        · have h5 := h4.2 c5
          refine r_aload_n ok181 30 rfl rfl rfl ?_
          refine r_invVv (as := []) (S := []) ok181 31 rfl rfl mf175 rfl rfl (Nat.le_of_ble_eq_true rfl) rfl h5 (fun σ6 h6 => ?_)
          refine r_iload_n ok181 32 rfl rfl rfl ?_
          exact r_iret ok181 33 rfl rfl rfl h6
      · have h3 := h2.2 c3
        refine r_aload_n ok181 17 rfl rfl rfl ?_
        refine r_getI ok181 18 rfl rfl rfl rfl ?_
        refine r_iload_n ok181 19 rfl rfl rfl ?_
        refine r_icmp_le ok181 20 rfl rfl (fun c7 => ?_) (fun c7 => ?_)
        · have h7 := h3.1 c7
          refine r_aload_n ok181 24 rfl rfl rfl ?_
          refine r_getI ok181 25 rfl rfl rfl rfl ?_
          refine r_istore_n ok181 26 rfl rfl ?_
          refine r_aload_n ok181 27 rfl rfl rfl ?_
          refine r_getI ok181 28 rfl rfl rfl rfl ?_
          refine r_if_ne ok181 29 rfl rfl (fun c8 => ?_) (fun c8 => ?_)
          · have h8 := h7.1 c8
            refine r_iload_n ok181 32 rfl rfl rfl ?_
            exact r_iret ok181 33 rfl rfl rfl h8
          · have h8 := h7.2 c8
            refine r_aload_n ok181 30 rfl rfl rfl ?_
            refine r_invVv (as := []) (S := []) ok181 31 rfl rfl mf175 rfl rfl (Nat.le_of_ble_eq_true rfl) rfl h8 (fun σ9 h9 => ?_)
            refine r_iload_n ok181 32 rfl rfl rfl ?_
            exact r_iret ok181 33 rfl rfl rfl h9
        · have h7 := h3.2 c7
          refine r_aload_n ok181 21 rfl rfl rfl ?_
          refine r_iconst (v := 4) ok181 22 rfl rfl rfl ?_
          refine r_invVv (as := [.int 4]) (S := []) ok181 23 rfl rfl mf176 rfl rfl (Nat.le_of_ble_eq_true rfl) rfl h7 (fun σ10 h10 => ?_)
          refine r_aload_n ok181 24 rfl rfl rfl ?_
          refine r_getI ok181 25 rfl rfl rfl rfl ?_
          refine r_istore_n ok181 26 rfl rfl ?_
          refine r_aload_n ok181 27 rfl rfl rfl ?_
          refine r_getI ok181 28 rfl rfl rfl rfl ?_
          refine r_if_ne ok181 29 rfl rfl (fun c11 => ?_) (fun c11 => ?_)
          · have h11 := h10.1 c11
            refine r_iload_n ok181 32 rfl rfl rfl ?_
            exact r_iret ok181 33 rfl rfl rfl h11
          · have h11 := h10.2 c11
            refine r_aload_n ok181 30 rfl rfl rfl ?_
            refine r_invVv (as := []) (S := []) ok181 31 rfl rfl mf175 rfl rfl (Nat.le_of_ble_eq_true rfl) rfl h11 (fun σ12 h12 => ?_)
            refine r_iload_n ok181 32 rfl rfl rfl ?_
            exact r_iret ok181 33 rfl rfl rfl h12
    · have h2 := h1.2 c2
      refine r_aload_n ok181 9 rfl rfl rfl ?_
      refine r_iconst (v := 2) ok181 10 rfl rfl rfl ?_
      refine r_invVv (as := [.int 2]) (S := []) ok181 11 rfl rfl mf176 rfl rfl (Nat.le_of_ble_eq_true rfl) rfl h2 (fun σ13 h13 => ?_)
      refine r_goto ok181 12 rfl rfl ?_
      refine r_aload_n ok181 24 rfl rfl rfl ?_
      refine r_getI ok181 25 rfl rfl rfl rfl ?_
      refine r_istore_n ok181 26 rfl rfl ?_
      refine r_aload_n ok181 27 rfl rfl rfl ?_
      refine r_getI ok181 28 rfl rfl rfl rfl ?_
      refine r_if_ne ok181 29 rfl rfl (fun c14 => ?_) (fun c14 => ?_)
      · have h14 := h13.1 c14
        refine r_iload_n ok181 32 rfl rfl rfl ?_
        exact r_iret ok181 33 rfl rfl rfl h14
      · have h14 := h13.2 c14
        refine r_aload_n ok181 30 rfl rfl rfl ?_
        refine r_invVv (as := []) (S := []) ok181 31 rfl rfl mf175 rfl rfl (Nat.le_of_ble_eq_true rfl) rfl h14 (fun σ15 h15 => ?_)
        refine r_iload_n ok181 32 rfl rfl rfl ?_
        exact r_iret ok181 33 rfl rfl rfl h15
  · have h1 := h.2 c1
    refine r_iconst (v := 0) ok181 3 rfl rfl rfl ?_
    exact r_iret ok181 4 rfl rfl rfl h1

theorem K181 {Θ : Th} {d : Nat} {σ : Mem} {Q : Po} {x1 : Int32} {x2 : Int32} (h : G Θ (d + 1) 181 0 [some (.ref 124), some (.int x1), some (.int x2), none] [] σ Q) : Cm Θ (d + 1) 181 [.ref 124, .int x1, .int x2] σ Q :=
  C_of_G okM181 (Nat.le_of_ble_eq_true rfl) rfl h

-- 182: LikeYearsModel.markOf(J)I
set_option maxRecDepth 100000 in
set_option maxHeartbeats 4000000 in
theorem B182_0 {Θ : Th} {d : Nat} {σ : Mem} {Q : Po} {x1 : Int64} 
    (h : G Θ d 182 5 [some (.ref 124), some (.long x1), none, some (.int (-1)), some (.int 0)] [] σ Q) :
    G Θ d 182 0 [some (.ref 124), some (.long x1), none, none, none] [] σ Q := by
  refine r_iconst (v := (-1)) ok182 0 rfl rfl rfl ?_
  refine r_istore_n ok182 1 rfl rfl ?_
  refine r_iconst (v := 0) ok182 2 rfl rfl rfl ?_
  refine r_istore ok182 3 rfl rfl ?_
  exact h

set_option maxRecDepth 100000 in
set_option maxHeartbeats 4000000 in
theorem B182_5 {Θ : Th} {d : Nat} {σ : Mem} {Q : Po} {x1 : Int64} {x3 : Int32} {x4 : Int32} 
    (h : (((σ.1 124 24) ≤ x4 → Q (some (.int x3)) σ) ∧ (¬ (σ.1 124 24) ≤ x4 → (vp_in x4 6 ∧ ((¬ (lg_cmp (σ.2.1 126 x4.toNatClampNeg) x1) = 0 → G Θ d 182 5 [some (.ref 124), some (.long x1), none, some (.int x3), some (.int (x4 + 1))] [] σ Q) ∧ ((lg_cmp (σ.2.1 126 x4.toNatClampNeg) x1) = 0 → G Θ d 182 5 [some (.ref 124), some (.long x1), none, some (.int x4), some (.int (x4 + 1))] [] σ Q)))))) :
    G Θ d 182 5 [some (.ref 124), some (.long x1), none, some (.int x3), some (.int x4)] [] σ Q := by
  refine r_iload ok182 4 rfl rfl rfl ?_
  refine r_aload_n ok182 5 rfl rfl rfl ?_
  refine r_getI ok182 6 rfl rfl rfl rfl ?_
  refine r_icmp_ge ok182 7 rfl rfl (fun c1 => ?_) (fun c1 => ?_)
  · have h1 := h.1 c1
    refine r_iload_n ok182 21 rfl rfl rfl ?_
    exact r_iret ok182 22 rfl rfl rfl h1
  · have h1 := h.2 c1
    refine r_aload_n ok182 8 rfl rfl rfl ?_
    refine r_getF ok182 9 rfl rfl rfl rfl ?_
    refine r_iload ok182 10 rfl rfl rfl ?_
    obtain ⟨c2, h2⟩ := h1
    refine r_lald ok182 11 rfl rfl rfl c2 ?_
    refine r_lload_n ok182 12 rfl rfl rfl ?_
    refine r_lcmp ok182 13 rfl rfl ?_
    refine r_if_ne ok182 14 rfl rfl (fun c3 => ?_) (fun c3 => ?_)
    · have h3 := h2.1 c3
      refine r_iload_n ok182 17 rfl rfl rfl ?_
      refine r_istore_n ok182 18 rfl rfl ?_
      refine r_iinc (v := x4 + 1) ok182 19 rfl rfl rfl rfl ?_
      refine r_goto ok182 20 rfl rfl ?_
      exact h3
    · have h3 := h2.2 c3
      refine r_iload ok182 15 rfl rfl rfl ?_
      refine r_goto ok182 16 rfl rfl ?_
      refine r_istore_n ok182 18 rfl rfl ?_
      refine r_iinc (v := x4 + 1) ok182 19 rfl rfl rfl rfl ?_
      refine r_goto ok182 20 rfl rfl ?_
      exact h3

theorem K182 {Θ : Th} {d : Nat} {σ : Mem} {Q : Po} {x1 : Int64} (h : G Θ d 182 0 [some (.ref 124), some (.long x1), none, none, none] [] σ Q) : Cm Θ d 182 [.ref 124, .long x1] σ Q :=
  C_of_G okM182 (Nat.le_of_ble_eq_true rfl) rfl h

-- 183: LikeYearsModel.caseOf(J)I
set_option maxRecDepth 100000 in
set_option maxHeartbeats 4000000 in
theorem B183_0 {Θ : Th} {d : Nat} {σ : Mem} {Q : Po} {x1 : Int64} 
    (h : G Θ d 183 5 [some (.ref 124), some (.long x1), none, some (.int (-1)), some (.int 0)] [] σ Q) :
    G Θ d 183 0 [some (.ref 124), some (.long x1), none, none, none] [] σ Q := by
  refine r_iconst (v := (-1)) ok183 0 rfl rfl rfl ?_
  refine r_istore_n ok183 1 rfl rfl ?_
  refine r_iconst (v := 0) ok183 2 rfl rfl rfl ?_
  refine r_istore ok183 3 rfl rfl ?_
  exact h

set_option maxRecDepth 100000 in
set_option maxHeartbeats 4000000 in
theorem B183_5 {Θ : Th} {d : Nat} {σ : Mem} {Q : Po} {x1 : Int64} {x3 : Int32} {x4 : Int32} 
    (h : (((σ.1 124 25) ≤ x4 → Q (some (.int x3)) σ) ∧ (¬ (σ.1 124 25) ≤ x4 → (vp_in x4 16 ∧ ((¬ (lg_cmp (σ.2.1 127 x4.toNatClampNeg) x1) = 0 → G Θ d 183 5 [some (.ref 124), some (.long x1), none, some (.int x3), some (.int (x4 + 1))] [] σ Q) ∧ ((lg_cmp (σ.2.1 127 x4.toNatClampNeg) x1) = 0 → G Θ d 183 5 [some (.ref 124), some (.long x1), none, some (.int x4), some (.int (x4 + 1))] [] σ Q)))))) :
    G Θ d 183 5 [some (.ref 124), some (.long x1), none, some (.int x3), some (.int x4)] [] σ Q := by
  refine r_iload ok183 4 rfl rfl rfl ?_
  refine r_aload_n ok183 5 rfl rfl rfl ?_
  refine r_getI ok183 6 rfl rfl rfl rfl ?_
  refine r_icmp_ge ok183 7 rfl rfl (fun c1 => ?_) (fun c1 => ?_)
  · have h1 := h.1 c1
    refine r_iload_n ok183 21 rfl rfl rfl ?_
    exact r_iret ok183 22 rfl rfl rfl h1
  · have h1 := h.2 c1
    refine r_aload_n ok183 8 rfl rfl rfl ?_
    refine r_getF ok183 9 rfl rfl rfl rfl ?_
    refine r_iload ok183 10 rfl rfl rfl ?_
    obtain ⟨c2, h2⟩ := h1
    refine r_lald ok183 11 rfl rfl rfl c2 ?_
    refine r_lload_n ok183 12 rfl rfl rfl ?_
    refine r_lcmp ok183 13 rfl rfl ?_
    refine r_if_ne ok183 14 rfl rfl (fun c3 => ?_) (fun c3 => ?_)
    · have h3 := h2.1 c3
      refine r_iload_n ok183 17 rfl rfl rfl ?_
      refine r_istore_n ok183 18 rfl rfl ?_
      refine r_iinc (v := x4 + 1) ok183 19 rfl rfl rfl rfl ?_
      refine r_goto ok183 20 rfl rfl ?_
      exact h3
    · have h3 := h2.2 c3
      refine r_iload ok183 15 rfl rfl rfl ?_
      refine r_goto ok183 16 rfl rfl ?_
      refine r_istore_n ok183 18 rfl rfl ?_
      refine r_iinc (v := x4 + 1) ok183 19 rfl rfl rfl rfl ?_
      refine r_goto ok183 20 rfl rfl ?_
      exact h3

theorem K183 {Θ : Th} {d : Nat} {σ : Mem} {Q : Po} {x1 : Int64} (h : G Θ d 183 0 [some (.ref 124), some (.long x1), none, none, none] [] σ Q) : Cm Θ d 183 [.ref 124, .long x1] σ Q :=
  C_of_G okM183 (Nat.le_of_ble_eq_true rfl) rfl h

-- 184: LikeYearsModel.newName()J
set_option maxRecDepth 100000 in
set_option maxHeartbeats 4000000 in
theorem B184_0 {Θ : Th} {d : Nat} {σ : Mem} {Q : Po} 
    (h : (((σ.1 124 2) ≤ 0 → Ci Θ d 178 [.ref 124] σ (fun v2 σ2 => ((¬ v2 = 0 → Ci Θ d 182 [.ref 124, .long (σ2.2.1 124 9)] σ2 (fun v4 σ4 => ((0 ≤ v4 → Cv Θ d 176 [.ref 124, .int 3] σ4 (fun σ6 => ((¬ (σ6.1 124 2) = 0 → Q (some (.long (σ6.2.1 124 9))) σ6) ∧ ((σ6.1 124 2) = 0 → Cv Θ d 175 [.ref 124] σ6 (fun σ8 => Q (some (.long (σ6.2.1 124 9))) σ8))))) ∧ (¬ 0 ≤ v4 → Ci Θ d 183 [.ref 124, .long (σ4.2.1 124 9)] σ4 (fun v9 σ9 => ((v9 < 0 → ((¬ (σ9.1 124 2) = 0 → Q (some (.long (σ9.2.1 124 9))) σ9) ∧ ((σ9.1 124 2) = 0 → Cv Θ d 175 [.ref 124] σ9 (fun σ12 => Q (some (.long (σ9.2.1 124 9))) σ12)))) ∧ (¬ v9 < 0 → Cv Θ d 176 [.ref 124, .int 3] σ9 (fun σ13 => ((¬ (σ13.1 124 2) = 0 → Q (some (.long (σ13.2.1 124 9))) σ13) ∧ ((σ13.1 124 2) = 0 → Cv Θ d 175 [.ref 124] σ13 (fun σ15 => Q (some (.long (σ13.2.1 124 9))) σ15))))))))))) ∧ (v2 = 0 → Cv Θ d 176 [.ref 124, .int 2] σ2 (fun σ16 => ((¬ (σ16.1 124 2) = 0 → Q (some (.long (σ16.2.1 124 9))) σ16) ∧ ((σ16.1 124 2) = 0 → Cv Θ d 175 [.ref 124] σ16 (fun σ18 => Q (some (.long (σ16.2.1 124 9))) σ18)))))))) ∧ (¬ (σ.1 124 2) ≤ 0 → Q (some (.long 0)) σ))) :
    G Θ (d + 1) 184 0 [some (.ref 124), none, none] [] σ Q := by
  refine r_aload_n ok184 0 rfl rfl rfl ?_
  refine r_getI ok184 1 rfl rfl rfl rfl ?_
  refine r_if_le ok184 2 rfl rfl (fun c1 => ?_) (fun c1 => ?_)
  · have h1 := h.1 c1
    refine r_aload_n ok184 5 rfl rfl rfl ?_
    refine r_invVi (as := []) (S := []) ok184 6 rfl rfl mf178 rfl rfl (Nat.le_of_ble_eq_true rfl) rfl h1 (fun v2 σ2 h2 => ?_)
    refine r_if_ne ok184 7 rfl rfl (fun c3 => ?_) (fun c3 => ?_)
    · have h3 := h2.1 c3
      refine r_aload_n ok184 12 rfl rfl rfl ?_
      refine r_aload_n ok184 13 rfl rfl rfl ?_
      refine r_getL ok184 14 rfl rfl rfl rfl ?_
      refine r_invVi (as := [.long (σ2.2.1 124 9)]) (S := []) ok184 15 rfl rfl mf182 rfl rfl (Nat.le_of_ble_eq_true rfl) rfl h3 (fun v4 σ4 h4 => ?_)
      refine r_if_ge ok184 16 rfl rfl (fun c5 => ?_) (fun c5 => ?_)
      · have h5 := h4.1 c5
        refine r_aload_n ok184 22 rfl rfl rfl ?_
        refine r_iconst (v := 3) ok184 23 rfl rfl rfl ?_
        refine r_invVv (as := [.int 3]) (S := []) ok184 24 rfl rfl mf176 rfl rfl (Nat.le_of_ble_eq_true rfl) rfl h5 (fun σ6 h6 => ?_)
        refine r_aload_n ok184 25 rfl rfl rfl ?_
        refine r_getL ok184 26 rfl rfl rfl rfl ?_
        refine r_lstore_n ok184 27 rfl rfl ?_
        refine r_aload_n ok184 28 rfl rfl rfl ?_
        refine r_getI ok184 29 rfl rfl rfl rfl ?_
        refine r_if_ne ok184 30 rfl rfl (fun c7 => ?_) (fun c7 => ?_)
        · have h7 := h6.1 c7
          refine r_lload_n ok184 33 rfl rfl rfl ?_
          exact r_lret ok184 34 rfl rfl rfl h7
        · have h7 := h6.2 c7
          refine r_aload_n ok184 31 rfl rfl rfl ?_
          refine r_invVv (as := []) (S := []) ok184 32 rfl rfl mf175 rfl rfl (Nat.le_of_ble_eq_true rfl) rfl h7 (fun σ8 h8 => ?_)
          refine r_lload_n ok184 33 rfl rfl rfl ?_
          exact r_lret ok184 34 rfl rfl rfl h8
      · have h5 := h4.2 c5
        refine r_aload_n ok184 17 rfl rfl rfl ?_
        refine r_aload_n ok184 18 rfl rfl rfl ?_
        refine r_getL ok184 19 rfl rfl rfl rfl ?_
        refine r_invVi (as := [.long (σ4.2.1 124 9)]) (S := []) ok184 20 rfl rfl mf183 rfl rfl (Nat.le_of_ble_eq_true rfl) rfl h5 (fun v9 σ9 h9 => ?_)
        refine r_if_lt ok184 21 rfl rfl (fun c10 => ?_) (fun c10 => ?_)
        · have h10 := h9.1 c10
          refine r_aload_n ok184 25 rfl rfl rfl ?_
          refine r_getL ok184 26 rfl rfl rfl rfl ?_
          refine r_lstore_n ok184 27 rfl rfl ?_
          refine r_aload_n ok184 28 rfl rfl rfl ?_
          refine r_getI ok184 29 rfl rfl rfl rfl ?_
          refine r_if_ne ok184 30 rfl rfl (fun c11 => ?_) (fun c11 => ?_)
          · have h11 := h10.1 c11
            refine r_lload_n ok184 33 rfl rfl rfl ?_
            exact r_lret ok184 34 rfl rfl rfl h11
          · have h11 := h10.2 c11
            refine r_aload_n ok184 31 rfl rfl rfl ?_
            refine r_invVv (as := []) (S := []) ok184 32 rfl rfl mf175 rfl rfl (Nat.le_of_ble_eq_true rfl) rfl h11 (fun σ12 h12 => ?_)
            refine r_lload_n ok184 33 rfl rfl rfl ?_
            exact r_lret ok184 34 rfl rfl rfl h12
        · have h10 := h9.2 c10
          refine r_aload_n ok184 22 rfl rfl rfl ?_
          refine r_iconst (v := 3) ok184 23 rfl rfl rfl ?_
          refine r_invVv (as := [.int 3]) (S := []) ok184 24 rfl rfl mf176 rfl rfl (Nat.le_of_ble_eq_true rfl) rfl h10 (fun σ13 h13 => ?_)
          refine r_aload_n ok184 25 rfl rfl rfl ?_
          refine r_getL ok184 26 rfl rfl rfl rfl ?_
          refine r_lstore_n ok184 27 rfl rfl ?_
          refine r_aload_n ok184 28 rfl rfl rfl ?_
          refine r_getI ok184 29 rfl rfl rfl rfl ?_
          refine r_if_ne ok184 30 rfl rfl (fun c14 => ?_) (fun c14 => ?_)
          · have h14 := h13.1 c14
            refine r_lload_n ok184 33 rfl rfl rfl ?_
            exact r_lret ok184 34 rfl rfl rfl h14
          · have h14 := h13.2 c14
            refine r_aload_n ok184 31 rfl rfl rfl ?_
            refine r_invVv (as := []) (S := []) ok184 32 rfl rfl mf175 rfl rfl (Nat.le_of_ble_eq_true rfl) rfl h14 (fun σ15 h15 => ?_)
            refine r_lload_n ok184 33 rfl rfl rfl ?_
            exact r_lret ok184 34 rfl rfl rfl h15
    · have h3 := h2.2 c3
      refine r_aload_n ok184 8 rfl rfl rfl ?_
      refine r_iconst (v := 2) ok184 9 rfl rfl rfl ?_
      refine r_invVv (as := [.int 2]) (S := []) ok184 10 rfl rfl mf176 rfl rfl (Nat.le_of_ble_eq_true rfl) rfl h3 (fun σ16 h16 => ?_)
      refine r_goto ok184 11 rfl rfl ?_
      refine r_aload_n ok184 25 rfl rfl rfl ?_
      refine r_getL ok184 26 rfl rfl rfl rfl ?_
      refine r_lstore_n ok184 27 rfl rfl ?_
      refine r_aload_n ok184 28 rfl rfl rfl ?_
      refine r_getI ok184 29 rfl rfl rfl rfl ?_
      refine r_if_ne ok184 30 rfl rfl (fun c17 => ?_) (fun c17 => ?_)
      · have h17 := h16.1 c17
        refine r_lload_n ok184 33 rfl rfl rfl ?_
        exact r_lret ok184 34 rfl rfl rfl h17
      · have h17 := h16.2 c17
        refine r_aload_n ok184 31 rfl rfl rfl ?_
        refine r_invVv (as := []) (S := []) ok184 32 rfl rfl mf175 rfl rfl (Nat.le_of_ble_eq_true rfl) rfl h17 (fun σ18 h18 => ?_)
        refine r_lload_n ok184 33 rfl rfl rfl ?_
        exact r_lret ok184 34 rfl rfl rfl h18
  · have h1 := h.2 c1
    refine r_lconst (v := 0) ok184 3 rfl rfl rfl ?_
    exact r_lret ok184 4 rfl rfl rfl h1

theorem K184 {Θ : Th} {d : Nat} {σ : Mem} {Q : Po} (h : G Θ (d + 1) 184 0 [some (.ref 124), none, none] [] σ Q) : Cm Θ (d + 1) 184 [.ref 124] σ Q :=
  C_of_G okM184 (Nat.le_of_ble_eq_true rfl) rfl h

-- 185: LikeYearsModel.oldName(Z)I
set_option maxRecDepth 100000 in
set_option maxHeartbeats 4000000 in
theorem B185_0 {Θ : Th} {d : Nat} {σ : Mem} {Q : Po} {x1 : Int32} 
    (h : (((σ.1 124 2) ≤ 0 → ((x1 = 0 → Ci Θ d 183 [.ref 124, .long (σ.2.1 124 9)] σ (fun v3 σ3 => Ci Θ d 178 [.ref 124] σ3 (fun v4 σ4 => ((¬ v4 = 0 → ((0 ≤ v3 → Q (some (.int v3)) σ4) ∧ (¬ 0 ≤ v3 → Cv Θ d 176 [.ref 124, .int 5] σ4 (fun σ7 => Q (some (.int v3)) σ7)))) ∧ (v4 = 0 → Cv Θ d 176 [.ref 124, .int 2] σ4 (fun σ8 => Q (some (.int v3)) σ8)))))) ∧ (¬ x1 = 0 → Ci Θ d 182 [.ref 124, .long (σ.2.1 124 9)] σ (fun v9 σ9 => Ci Θ d 178 [.ref 124] σ9 (fun v10 σ10 => ((¬ v10 = 0 → ((0 ≤ v9 → Q (some (.int v9)) σ10) ∧ (¬ 0 ≤ v9 → Cv Θ d 176 [.ref 124, .int 5] σ10 (fun σ13 => Q (some (.int v9)) σ13)))) ∧ (v10 = 0 → Cv Θ d 176 [.ref 124, .int 2] σ10 (fun σ14 => Q (some (.int v9)) σ14)))))))) ∧ (¬ (σ.1 124 2) ≤ 0 → Q (some (.int 0)) σ))) :
    G Θ (d + 1) 185 0 [some (.ref 124), some (.int x1), none] [] σ Q := by
  refine r_aload_n ok185 0 rfl rfl rfl ?_
  refine r_getI ok185 1 rfl rfl rfl rfl ?_
  refine r_if_le ok185 2 rfl rfl (fun c1 => ?_) (fun c1 => ?_)
  · have h1 := h.1 c1
    refine r_iload_n ok185 5 rfl rfl rfl ?_
    refine r_if_eq ok185 6 rfl rfl (fun c2 => ?_) (fun c2 => ?_)
    · have h2 := h1.1 c2
      refine r_aload_n ok185 12 rfl rfl rfl ?_
      refine r_aload_n ok185 13 rfl rfl rfl ?_
      refine r_getL ok185 14 rfl rfl rfl rfl ?_
      refine r_invVi (as := [.long (σ.2.1 124 9)]) (S := []) ok185 15 rfl rfl mf183 rfl rfl (Nat.le_of_ble_eq_true rfl) rfl h2 (fun v3 σ3 h3 => ?_)
      refine r_istore_n ok185 16 rfl rfl ?_
      refine r_aload_n ok185 17 rfl rfl rfl ?_
      refine r_invVi (as := []) (S := []) ok185 18 rfl rfl mf178 rfl rfl (Nat.le_of_ble_eq_true rfl) rfl h3 (fun v4 σ4 h4 => ?_)
      refine r_if_ne ok185 19 rfl rfl (fun c5 => ?_) (fun c5 => ?_)
      · have h5 := h4.1 c5
        refine r_iload_n ok185 24 rfl rfl rfl ?_
        refine r_if_ge ok185 25 rfl rfl (fun c6 => ?_) (fun c6 => ?_)
        · have h6 := h5.1 c6
          refine r_iload_n ok185 29 rfl rfl rfl ?_
          exact r_iret ok185 30 rfl rfl rfl h6
        · have h6 := h5.2 c6
          refine r_aload_n ok185 26 rfl rfl rfl ?_
          refine r_iconst (v := 5) ok185 27 rfl rfl rfl ?_
          refine r_invVv (as := [.int 5]) (S := []) ok185 28 rfl rfl mf176 rfl rfl (Nat.le_of_ble_eq_true rfl) rfl h6 (fun σ7 h7 => ?_)
          refine r_iload_n ok185 29 rfl rfl rfl ?_
          exact r_iret ok185 30 rfl rfl rfl h7
      · have h5 := h4.2 c5
        refine r_aload_n ok185 20 rfl rfl rfl ?_
        refine r_iconst (v := 2) ok185 21 rfl rfl rfl ?_
        refine r_invVv (as := [.int 2]) (S := []) ok185 22 rfl rfl mf176 rfl rfl (Nat.le_of_ble_eq_true rfl) rfl h5 (fun σ8 h8 => ?_)
        refine r_goto ok185 23 rfl rfl ?_
        refine r_iload_n ok185 29 rfl rfl rfl ?_
        exact r_iret ok185 30 rfl rfl rfl h8
    · have h2 := h1.2 c2
      refine r_aload_n ok185 7 rfl rfl rfl ?_
      refine r_aload_n ok185 8 rfl rfl rfl ?_
      refine r_getL ok185 9 rfl rfl rfl rfl ?_
      refine r_invVi (as := [.long (σ.2.1 124 9)]) (S := []) ok185 10 rfl rfl mf182 rfl rfl (Nat.le_of_ble_eq_true rfl) rfl h2 (fun v9 σ9 h9 => ?_)
      refine r_goto ok185 11 rfl rfl ?_
      refine r_istore_n ok185 16 rfl rfl ?_
      refine r_aload_n ok185 17 rfl rfl rfl ?_
      refine r_invVi (as := []) (S := []) ok185 18 rfl rfl mf178 rfl rfl (Nat.le_of_ble_eq_true rfl) rfl h9 (fun v10 σ10 h10 => ?_)
      refine r_if_ne ok185 19 rfl rfl (fun c11 => ?_) (fun c11 => ?_)
      · have h11 := h10.1 c11
        refine r_iload_n ok185 24 rfl rfl rfl ?_
        refine r_if_ge ok185 25 rfl rfl (fun c12 => ?_) (fun c12 => ?_)
        · have h12 := h11.1 c12
          refine r_iload_n ok185 29 rfl rfl rfl ?_
          exact r_iret ok185 30 rfl rfl rfl h12
        · have h12 := h11.2 c12
          refine r_aload_n ok185 26 rfl rfl rfl ?_
          refine r_iconst (v := 5) ok185 27 rfl rfl rfl ?_
          refine r_invVv (as := [.int 5]) (S := []) ok185 28 rfl rfl mf176 rfl rfl (Nat.le_of_ble_eq_true rfl) rfl h12 (fun σ13 h13 => ?_)
          refine r_iload_n ok185 29 rfl rfl rfl ?_
          exact r_iret ok185 30 rfl rfl rfl h13
      · have h11 := h10.2 c11
        refine r_aload_n ok185 20 rfl rfl rfl ?_
        refine r_iconst (v := 2) ok185 21 rfl rfl rfl ?_
        refine r_invVv (as := [.int 2]) (S := []) ok185 22 rfl rfl mf176 rfl rfl (Nat.le_of_ble_eq_true rfl) rfl h11 (fun σ14 h14 => ?_)
        refine r_goto ok185 23 rfl rfl ?_
        refine r_iload_n ok185 29 rfl rfl rfl ?_
        exact r_iret ok185 30 rfl rfl rfl h14
  · have h1 := h.2 c1
    refine r_iconst (v := 0) ok185 3 rfl rfl rfl ?_
    exact r_iret ok185 4 rfl rfl rfl h1

theorem K185 {Θ : Th} {d : Nat} {σ : Mem} {Q : Po} {x1 : Int32} (h : G Θ (d + 1) 185 0 [some (.ref 124), some (.int x1), none] [] σ Q) : Cm Θ (d + 1) 185 [.ref 124, .int x1] σ Q :=
  C_of_G okM185 (Nat.le_of_ble_eq_true rfl) rfl h

-- 186: LikeYearsModel.readMark()V
set_option maxRecDepth 100000 in
set_option maxHeartbeats 4000000 in
theorem B186_0 {Θ : Th} {d : Nat} {σ : Mem} {Q : Po} 
    (h : Cv Θ d 175 [.ref 124] σ (fun σ1 => Cl Θ d 184 [.ref 124] σ1 (fun v2 σ2 => Cv Θ d 180 [.ref 124, .long 29807] σ2 (fun σ3 => Ci Θ d 181 [.ref 124, .int 1, .int 11] σ3 (fun v4 σ4 => (((σ4.1 124 2) ≤ 0 → (vp_in (σ4.1 124 24) 6 ∧ (vp_in ((sL σ4 126 ((σ4.1 124 24).toNatClampNeg) v2).1 124 24) 6 ∧ (vp_in ((sI (sL σ4 126 ((σ4.1 124 24).toNatClampNeg) v2) 128 (((sL σ4 126 ((σ4.1 124 24).toNatClampNeg) v2).1 124 24).toNatClampNeg) v4).1 124 24) 6 ∧ Q none (sI (sI (sI (sL σ4 126 ((σ4.1 124 24).toNatClampNeg) v2) 128 (((sL σ4 126 ((σ4.1 124 24).toNatClampNeg) v2).1 124 24).toNatClampNeg) v4) 137 (((sI (sL σ4 126 ((σ4.1 124 24).toNatClampNeg) v2) 128 (((sL σ4 126 ((σ4.1 124 24).toNatClampNeg) v2).1 124 24).toNatClampNeg) v4).1 124 24).toNatClampNeg) (vp_nar .boolean 0)) 124 24 (((sI (sI (sL σ4 126 ((σ4.1 124 24).toNatClampNeg) v2) 128 (((sL σ4 126 ((σ4.1 124 24).toNatClampNeg) v2).1 124 24).toNatClampNeg) v4) 137 (((sI (sL σ4 126 ((σ4.1 124 24).toNatClampNeg) v2) 128 (((sL σ4 126 ((σ4.1 124 24).toNatClampNeg) v2).1 124 24).toNatClampNeg) v4).1 124 24).toNatClampNeg) (vp_nar .boolean 0)).1 124 24) + 1)))))) ∧ (¬ (σ4.1 124 2) ≤ 0 → Q none σ4))))))) :
    G Θ (d + 1) 186 0 [some (.ref 124), none, none, none] [] σ Q := by
  refine r_aload_n ok186 0 rfl rfl rfl ?_
  refine r_invVv (as := []) (S := []) ok186 1 rfl rfl mf175 rfl rfl (Nat.le_of_ble_eq_true rfl) rfl h (fun σ1 h1 => ?_)
  refine r_aload_n ok186 2 rfl rfl rfl ?_
  refine r_invVl (as := []) (S := []) ok186 3 rfl rfl mf184 rfl rfl (Nat.le_of_ble_eq_true rfl) rfl h1 (fun v2 σ2 h2 => ?_)
  refine r_lstore_n ok186 4 rfl rfl ?_
  refine r_aload_n ok186 5 rfl rfl rfl ?_
  refine r_ldc2_w (v := 29807) ok186 6 rfl rfl rfl ?_
  refine r_invVv (as := [.long 29807]) (S := []) ok186 7 rfl rfl mf180 rfl rfl (Nat.le_of_ble_eq_true rfl) rfl h2 (fun σ3 h3 => ?_)
  refine r_aload_n ok186 8 rfl rfl rfl ?_
  refine r_iconst (v := 1) ok186 9 rfl rfl rfl ?_
  refine r_bipush (v := 11) ok186 10 rfl rfl rfl ?_
  refine r_invVi (as := [.int 1, .int 11]) (S := []) ok186 11 rfl rfl mf181 rfl rfl (Nat.le_of_ble_eq_true rfl) rfl h3 (fun v4 σ4 h4 => ?_)
  refine r_istore_n ok186 12 rfl rfl ?_
  refine r_aload_n ok186 13 rfl rfl rfl ?_
  refine r_getI ok186 14 rfl rfl rfl rfl ?_
  refine r_if_le ok186 15 rfl rfl (fun c5 => ?_) (fun c5 => ?_)
  · have h5 := h4.1 c5
    refine r_aload_n ok186 17 rfl rfl rfl ?_
    refine r_getF ok186 18 rfl rfl rfl rfl ?_
    refine r_aload_n ok186 19 rfl rfl rfl ?_
    refine r_getI ok186 20 rfl rfl rfl rfl ?_
    refine r_lload_n ok186 21 rfl rfl rfl ?_
    obtain ⟨c6, h6⟩ := h5
    refine r_last ok186 22 rfl rfl rfl c6 ?_
    refine r_aload_n ok186 23 rfl rfl rfl ?_
    refine r_getF ok186 24 rfl rfl rfl rfl ?_
    refine r_aload_n ok186 25 rfl rfl rfl ?_
    refine r_getI ok186 26 rfl rfl rfl rfl ?_
    refine r_iload_n ok186 27 rfl rfl rfl ?_
    obtain ⟨c7, h7⟩ := h6
    refine r_iast ok186 28 rfl rfl rfl c7 ?_
    refine r_aload_n ok186 29 rfl rfl rfl ?_
    refine r_getF ok186 30 rfl rfl rfl rfl ?_
    refine r_aload_n ok186 31 rfl rfl rfl ?_
    refine r_getI ok186 32 rfl rfl rfl rfl ?_
    refine r_iconst (v := 0) ok186 33 rfl rfl rfl ?_
    obtain ⟨c8, h8⟩ := h7
    refine r_zast ok186 34 rfl rfl rfl c8 ?_
    refine r_aload_n ok186 35 rfl rfl rfl ?_
    refine r_dup ok186 36 rfl rfl rfl ?_
    refine r_getI ok186 37 rfl rfl rfl rfl ?_
    refine r_iconst (v := 1) ok186 38 rfl rfl rfl ?_
    refine r_iadd ok186 39 rfl rfl ?_
    refine r_putI ok186 40 rfl rfl rfl rfl ?_
    exact r_ret ok186 41 rfl rfl rfl h8
  · have h5 := h4.2 c5
    exact r_ret ok186 16 rfl rfl rfl h5

theorem K186 {Θ : Th} {d : Nat} {σ : Mem} {Q : Po} (h : G Θ (d + 1) 186 0 [some (.ref 124), none, none, none] [] σ Q) : Cm Θ (d + 1) 186 [.ref 124] σ Q :=
  C_of_G okM186 (Nat.le_of_ble_eq_true rfl) rfl h

-- 187: LikeYearsModel.readNever()V
set_option maxRecDepth 100000 in
set_option maxHeartbeats 4000000 in
theorem B187_0 {Θ : Th} {d : Nat} {σ : Mem} {Q : Po} 
    (h : Cv Θ d 175 [.ref 124] σ (fun σ1 => Ci Θ d 185 [.ref 124, .int 1] σ1 (fun v2 σ2 => ((¬ (σ2.1 124 2) = 0 → (((σ2.1 124 2) ≤ 0 → (vp_in v2 6 ∧ Cv Θ d 175 [.ref 124] (sI σ2 137 (v2.toNatClampNeg) (vp_nar .boolean 1)) (fun σ6 => Q none σ6))) ∧ (¬ (σ2.1 124 2) ≤ 0 → Q none σ2))) ∧ ((σ2.1 124 2) = 0 → (vp_in v2 6 ∧ (((σ2.1 137 v2.toNatClampNeg) = 0 → (((σ2.1 124 2) ≤ 0 → (vp_in v2 6 ∧ Cv Θ d 175 [.ref 124] (sI σ2 137 (v2.toNatClampNeg) (vp_nar .boolean 1)) (fun σ11 => Q none σ11))) ∧ (¬ (σ2.1 124 2) ≤ 0 → Q none σ2))) ∧ (¬ (σ2.1 137 v2.toNatClampNeg) = 0 → Cv Θ d 176 [.ref 124, .int 3] σ2 (fun σ12 => (((σ12.1 124 2) ≤ 0 → (vp_in v2 6 ∧ Cv Θ d 175 [.ref 124] (sI σ12 137 (v2.toNatClampNeg) (vp_nar .boolean 1)) (fun σ15 => Q none σ15))) ∧ (¬ (σ12.1 124 2) ≤ 0 → Q none σ12))))))))))) :
    G Θ (d + 1) 187 0 [some (.ref 124), none] [] σ Q := by
  refine r_aload_n ok187 0 rfl rfl rfl ?_
  refine r_invVv (as := []) (S := []) ok187 1 rfl rfl mf175 rfl rfl (Nat.le_of_ble_eq_true rfl) rfl h (fun σ1 h1 => ?_)
  refine r_aload_n ok187 2 rfl rfl rfl ?_
  refine r_iconst (v := 1) ok187 3 rfl rfl rfl ?_
  refine r_invVi (as := [.int 1]) (S := []) ok187 4 rfl rfl mf185 rfl rfl (Nat.le_of_ble_eq_true rfl) rfl h1 (fun v2 σ2 h2 => ?_)
  refine r_istore_n ok187 5 rfl rfl ?_
  refine r_aload_n ok187 6 rfl rfl rfl ?_
  refine r_getI ok187 7 rfl rfl rfl rfl ?_
  refine r_if_ne ok187 8 rfl rfl (fun c3 => ?_) (fun c3 => ?_)
  · have h3 := h2.1 c3
    refine r_aload_n ok187 17 rfl rfl rfl ?_
    refine r_getI ok187 18 rfl rfl rfl rfl ?_
    refine r_if_le ok187 19 rfl rfl (fun c4 => ?_) (fun c4 => ?_)
    · have h4 := h3.1 c4
      refine r_aload_n ok187 21 rfl rfl rfl ?_
      refine r_getF ok187 22 rfl rfl rfl rfl ?_
      refine r_iload_n ok187 23 rfl rfl rfl ?_
      refine r_iconst (v := 1) ok187 24 rfl rfl rfl ?_
      obtain ⟨c5, h5⟩ := h4
      refine r_zast ok187 25 rfl rfl rfl c5 ?_
      refine r_aload_n ok187 26 rfl rfl rfl ?_
      refine r_invVv (as := []) (S := []) ok187 27 rfl rfl mf175 rfl rfl (Nat.le_of_ble_eq_true rfl) rfl h5 (fun σ6 h6 => ?_)
      exact r_ret ok187 28 rfl rfl rfl h6
    · have h4 := h3.2 c4
      exact r_ret ok187 20 rfl rfl rfl h4
  · have h3 := h2.2 c3
    refine r_aload_n ok187 9 rfl rfl rfl ?_
    refine r_getF ok187 10 rfl rfl rfl rfl ?_
    refine r_iload_n ok187 11 rfl rfl rfl ?_
    obtain ⟨c7, h7⟩ := h3
    refine r_zald ok187 12 rfl rfl rfl c7 ?_
    refine r_if_eq ok187 13 rfl rfl (fun c8 => ?_) (fun c8 => ?_)
    · have h8 := h7.1 c8
      refine r_aload_n ok187 17 rfl rfl rfl ?_
      refine r_getI ok187 18 rfl rfl rfl rfl ?_
      refine r_if_le ok187 19 rfl rfl (fun c9 => ?_) (fun c9 => ?_)
      · have h9 := h8.1 c9
        refine r_aload_n ok187 21 rfl rfl rfl ?_
        refine r_getF ok187 22 rfl rfl rfl rfl ?_
        refine r_iload_n ok187 23 rfl rfl rfl ?_
        refine r_iconst (v := 1) ok187 24 rfl rfl rfl ?_
        obtain ⟨c10, h10⟩ := h9
        refine r_zast ok187 25 rfl rfl rfl c10 ?_
        refine r_aload_n ok187 26 rfl rfl rfl ?_
        refine r_invVv (as := []) (S := []) ok187 27 rfl rfl mf175 rfl rfl (Nat.le_of_ble_eq_true rfl) rfl h10 (fun σ11 h11 => ?_)
        exact r_ret ok187 28 rfl rfl rfl h11
      · have h9 := h8.2 c9
        exact r_ret ok187 20 rfl rfl rfl h9
    · have h8 := h7.2 c8
      refine r_aload_n ok187 14 rfl rfl rfl ?_
      refine r_iconst (v := 3) ok187 15 rfl rfl rfl ?_
      refine r_invVv (as := [.int 3]) (S := []) ok187 16 rfl rfl mf176 rfl rfl (Nat.le_of_ble_eq_true rfl) rfl h8 (fun σ12 h12 => ?_)
      refine r_aload_n ok187 17 rfl rfl rfl ?_
      refine r_getI ok187 18 rfl rfl rfl rfl ?_
      refine r_if_le ok187 19 rfl rfl (fun c13 => ?_) (fun c13 => ?_)
      · have h13 := h12.1 c13
        refine r_aload_n ok187 21 rfl rfl rfl ?_
        refine r_getF ok187 22 rfl rfl rfl rfl ?_
        refine r_iload_n ok187 23 rfl rfl rfl ?_
        refine r_iconst (v := 1) ok187 24 rfl rfl rfl ?_
        obtain ⟨c14, h14⟩ := h13
        refine r_zast ok187 25 rfl rfl rfl c14 ?_
        refine r_aload_n ok187 26 rfl rfl rfl ?_
        refine r_invVv (as := []) (S := []) ok187 27 rfl rfl mf175 rfl rfl (Nat.le_of_ble_eq_true rfl) rfl h14 (fun σ15 h15 => ?_)
        exact r_ret ok187 28 rfl rfl rfl h15
      · have h13 := h12.2 c13
        exact r_ret ok187 20 rfl rfl rfl h13

theorem K187 {Θ : Th} {d : Nat} {σ : Mem} {Q : Po} (h : G Θ (d + 1) 187 0 [some (.ref 124), none] [] σ Q) : Cm Θ (d + 1) 187 [.ref 124] σ Q :=
  C_of_G okM187 (Nat.le_of_ble_eq_true rfl) rfl h

-- 188: LikeYearsModel.readCase()V
set_option maxRecDepth 100000 in
set_option maxHeartbeats 4000000 in
theorem B188_0 {Θ : Th} {d : Nat} {σ : Mem} {Q : Po} 
    (h : Cv Θ d 175 [.ref 124] σ (fun σ1 => Cl Θ d 184 [.ref 124] σ1 (fun v2 σ2 => Cv Θ d 180 [.ref 124, .long 457236047717] σ2 (fun σ3 => Ci Θ d 181 [.ref 124, .int 0, .int 9] σ3 (fun v4 σ4 => (vp_in (σ1.1 124 25) 16 ∧ Cv Θ d 180 [.ref 124, .long 26990] (sI σ4 130 ((σ1.1 124 25).toNatClampNeg) v4) (fun σ6 => Ci Θ d 181 [.ref 124, .int 0, .int 99] σ6 (fun v7 σ7 => (vp_in (σ1.1 124 25) 16 ∧ Cv Θ d 180 [.ref 124, .long 444150998382] (sI σ7 131 ((σ1.1 124 25).toNatClampNeg) v7) (fun σ9 => Ci Θ d 181 [.ref 124, .int 0, .int 240] σ9 (fun v10 σ10 => (vp_in (σ1.1 124 25) 16 ∧ Cv Θ d 180 [.ref 124, .long 131277443786868] (sI σ10 132 ((σ1.1 124 25).toNatClampNeg) v10) (fun σ12 => Ci Θ d 181 [.ref 124, .int 1, .int 4] σ12 (fun v13 σ13 => (vp_in (σ1.1 124 25) 16 ∧ G Θ (d + 1) 188 97 [some (.ref 124), some (.int (σ1.1 124 25)), some (.long v2), none, some (.int 0)] [] (sI σ13 133 ((σ1.1 124 25).toNatClampNeg) v13) Q))))))))))))))) :
    G Θ (d + 1) 188 0 [some (.ref 124), none, none, none, none] [] σ Q := by
  refine r_aload_n ok188 0 rfl rfl rfl ?_
  refine r_invVv (as := []) (S := []) ok188 1 rfl rfl mf175 rfl rfl (Nat.le_of_ble_eq_true rfl) rfl h (fun σ1 h1 => ?_)
  refine r_aload_n ok188 2 rfl rfl rfl ?_
  refine r_getI ok188 3 rfl rfl rfl rfl ?_
  refine r_istore_n ok188 4 rfl rfl ?_
  refine r_aload_n ok188 5 rfl rfl rfl ?_
  refine r_invVl (as := []) (S := []) ok188 6 rfl rfl mf184 rfl rfl (Nat.le_of_ble_eq_true rfl) rfl h1 (fun v2 σ2 h2 => ?_)
  refine r_lstore_n ok188 7 rfl rfl ?_
  refine r_aload_n ok188 8 rfl rfl rfl ?_
  refine r_ldc2_w (v := 457236047717) ok188 9 rfl rfl rfl ?_
  refine r_invVv (as := [.long 457236047717]) (S := []) ok188 10 rfl rfl mf180 rfl rfl (Nat.le_of_ble_eq_true rfl) rfl h2 (fun σ3 h3 => ?_)
  refine r_aload_n ok188 11 rfl rfl rfl ?_
  refine r_getF ok188 12 rfl rfl rfl rfl ?_
  refine r_iload_n ok188 13 rfl rfl rfl ?_
  refine r_aload_n ok188 14 rfl rfl rfl ?_
  refine r_iconst (v := 0) ok188 15 rfl rfl rfl ?_
  refine r_bipush (v := 9) ok188 16 rfl rfl rfl ?_
  refine r_invVi (as := [.int 0, .int 9]) (S := [.int (σ1.1 124 25), .ref 130]) ok188 17 rfl rfl mf181 rfl rfl (Nat.le_of_ble_eq_true rfl) rfl h3 (fun v4 σ4 h4 => ?_)
  obtain ⟨c5, h5⟩ := h4
  refine r_iast ok188 18 rfl rfl rfl c5 ?_
  refine r_aload_n ok188 19 rfl rfl rfl ?_
  refine r_ldc2_w (v := 26990) ok188 20 rfl rfl rfl ?_
  refine r_invVv (as := [.long 26990]) (S := []) ok188 21 rfl rfl mf180 rfl rfl (Nat.le_of_ble_eq_true rfl) rfl h5 (fun σ6 h6 => ?_)
  refine r_aload_n ok188 22 rfl rfl rfl ?_
  refine r_getF ok188 23 rfl rfl rfl rfl ?_
  refine r_iload_n ok188 24 rfl rfl rfl ?_
  refine r_aload_n ok188 25 rfl rfl rfl ?_
  refine r_iconst (v := 0) ok188 26 rfl rfl rfl ?_
  refine r_bipush (v := 99) ok188 27 rfl rfl rfl ?_
  refine r_invVi (as := [.int 0, .int 99]) (S := [.int (σ1.1 124 25), .ref 131]) ok188 28 rfl rfl mf181 rfl rfl (Nat.le_of_ble_eq_true rfl) rfl h6 (fun v7 σ7 h7 => ?_)
  obtain ⟨c8, h8⟩ := h7
  refine r_iast ok188 29 rfl rfl rfl c8 ?_
  refine r_aload_n ok188 30 rfl rfl rfl ?_
  refine r_ldc2_w (v := 444150998382) ok188 31 rfl rfl rfl ?_
  refine r_invVv (as := [.long 444150998382]) (S := []) ok188 32 rfl rfl mf180 rfl rfl (Nat.le_of_ble_eq_true rfl) rfl h8 (fun σ9 h9 => ?_)
  refine r_aload_n ok188 33 rfl rfl rfl ?_
  refine r_getF ok188 34 rfl rfl rfl rfl ?_
  refine r_iload_n ok188 35 rfl rfl rfl ?_
  refine r_aload_n ok188 36 rfl rfl rfl ?_
  refine r_iconst (v := 0) ok188 37 rfl rfl rfl ?_
  refine r_sipush (v := 240) ok188 38 rfl rfl rfl ?_
  refine r_invVi (as := [.int 0, .int 240]) (S := [.int (σ1.1 124 25), .ref 132]) ok188 39 rfl rfl mf181 rfl rfl (Nat.le_of_ble_eq_true rfl) rfl h9 (fun v10 σ10 h10 => ?_)
  obtain ⟨c11, h11⟩ := h10
  refine r_iast ok188 40 rfl rfl rfl c11 ?_
  refine r_aload_n ok188 41 rfl rfl rfl ?_
  refine r_ldc2_w (v := 131277443786868) ok188 42 rfl rfl rfl ?_
  refine r_invVv (as := [.long 131277443786868]) (S := []) ok188 43 rfl rfl mf180 rfl rfl (Nat.le_of_ble_eq_true rfl) rfl h11 (fun σ12 h12 => ?_)
  refine r_aload_n ok188 44 rfl rfl rfl ?_
  refine r_getF ok188 45 rfl rfl rfl rfl ?_
  refine r_iload_n ok188 46 rfl rfl rfl ?_
  refine r_aload_n ok188 47 rfl rfl rfl ?_
  refine r_iconst (v := 1) ok188 48 rfl rfl rfl ?_
  refine r_iconst (v := 4) ok188 49 rfl rfl rfl ?_
  refine r_invVi (as := [.int 1, .int 4]) (S := [.int (σ1.1 124 25), .ref 133]) ok188 50 rfl rfl mf181 rfl rfl (Nat.le_of_ble_eq_true rfl) rfl h12 (fun v13 σ13 h13 => ?_)
  obtain ⟨c14, h14⟩ := h13
  refine r_iast ok188 51 rfl rfl rfl c14 ?_
  refine r_iconst (v := 0) ok188 52 rfl rfl rfl ?_
  refine r_istore ok188 53 rfl rfl ?_
  exact h14

set_option maxRecDepth 100000 in
set_option maxHeartbeats 4000000 in
theorem B188_97 {Θ : Th} {d : Nat} {σ : Mem} {Q : Po} {x1 : Int32} {x2 : Int64} {x4 : Int32} 
    (h : ((6 ≤ x4 → G Θ (d + 1) 188 131 [some (.ref 124), some (.int x1), some (.long x2), none, none] [] σ Q) ∧ (¬ 6 ≤ x4 → (vp_in ((6 * x1) + x4) 96 ∧ (vp_in x4 6 ∧ G Θ (d + 1) 188 97 [some (.ref 124), some (.int x1), some (.long x2), none, some (.int (x4 + 1))] [] (sI (sI σ 129 (((6 * x1) + x4).toNatClampNeg) 0) 138 (x4.toNatClampNeg) (vp_nar .boolean 0)) Q))))) :
    G Θ (d + 1) 188 97 [some (.ref 124), some (.int x1), some (.long x2), none, some (.int x4)] [] σ Q := by
  refine r_iload ok188 54 rfl rfl rfl ?_
  refine r_bipush (v := 6) ok188 55 rfl rfl rfl ?_
  refine r_icmp_ge ok188 56 rfl rfl (fun c1 => ?_) (fun c1 => ?_)
  · have h1 := h.1 c1
    exact G.weak (L' := [some (.ref 124), some (.int x1), some (.long x2), none, none]) ⟨rfl, ⟨rfl, ⟨rfl, trivial⟩⟩⟩ h1
  · have h1 := h.2 c1
    refine r_aload_n ok188 57 rfl rfl rfl ?_
    refine r_getF ok188 58 rfl rfl rfl rfl ?_
    refine r_bipush (v := 6) ok188 59 rfl rfl rfl ?_
    refine r_iload_n ok188 60 rfl rfl rfl ?_
    refine r_imul ok188 61 rfl rfl ?_
    refine r_iload ok188 62 rfl rfl rfl ?_
    refine r_iadd ok188 63 rfl rfl ?_
    refine r_iconst (v := 0) ok188 64 rfl rfl rfl ?_
    obtain ⟨c2, h2⟩ := h1
    refine r_iast ok188 65 rfl rfl rfl c2 ?_
    refine r_aload_n ok188 66 rfl rfl rfl ?_
    refine r_getF ok188 67 rfl rfl rfl rfl ?_
    refine r_iload ok188 68 rfl rfl rfl ?_
    refine r_iconst (v := 0) ok188 69 rfl rfl rfl ?_
    obtain ⟨c3, h3⟩ := h2
    refine r_zast ok188 70 rfl rfl rfl c3 ?_
    refine r_iinc (v := x4 + 1) ok188 71 rfl rfl rfl rfl ?_
    refine r_goto ok188 72 rfl rfl ?_
    exact h3

set_option maxRecDepth 100000 in
set_option maxHeartbeats 4000000 in
theorem B188_131 {Θ : Th} {d : Nat} {σ : Mem} {Q : Po} {x1 : Int32} {x2 : Int64} 
    (h : ((¬ (σ.1 124 2) = 0 → G Θ (d + 1) 188 223 [some (.ref 124), some (.int x1), some (.long x2), none, none] [] σ Q) ∧ ((σ.1 124 2) = 0 → (((σ.1 124 6) = 59 → G Θ (d + 1) 188 223 [some (.ref 124), some (.int x1), some (.long x2), none, none] [] σ Q) ∧ (¬ (σ.1 124 6) = 59 → Ci Θ d 185 [.ref 124, .int 1] σ (fun v3 σ3 => ((¬ (σ3.1 124 2) = 0 → G Θ (d + 1) 188 176 [some (.ref 124), some (.int x1), some (.long x2), none, some (.int v3)] [] σ3 Q) ∧ ((σ3.1 124 2) = 0 → (vp_in v3 6 ∧ (((σ3.1 138 v3.toNatClampNeg) = 0 → G Θ (d + 1) 188 176 [some (.ref 124), some (.int x1), some (.long x2), none, some (.int v3)] [] σ3 Q) ∧ (¬ (σ3.1 138 v3.toNatClampNeg) = 0 → Cv Θ d 176 [.ref 124, .int 3] σ3 (fun σ7 => G Θ (d + 1) 188 176 [some (.ref 124), some (.int x1), some (.long x2), none, some (.int v3)] [] σ7 Q)))))))))))) :
    G Θ (d + 1) 188 131 [some (.ref 124), some (.int x1), some (.long x2), none, none] [] σ Q := by
  refine r_aload_n ok188 73 rfl rfl rfl ?_
  refine r_getI ok188 74 rfl rfl rfl rfl ?_
  refine r_if_ne ok188 75 rfl rfl (fun c1 => ?_) (fun c1 => ?_)
  · have h1 := h.1 c1
    exact h1
  · have h1 := h.2 c1
    refine r_aload_n ok188 76 rfl rfl rfl ?_
    refine r_getI ok188 77 rfl rfl rfl rfl ?_
    refine r_bipush (v := 59) ok188 78 rfl rfl rfl ?_
    refine r_icmp_eq ok188 79 rfl rfl (fun c2 => ?_) (fun c2 => ?_)
    · have h2 := h1.1 c2
      exact h2
    · have h2 := h1.2 c2
      refine r_aload_n ok188 80 rfl rfl rfl ?_
      refine r_iconst (v := 1) ok188 81 rfl rfl rfl ?_
      refine r_invVi (as := [.int 1]) (S := []) ok188 82 rfl rfl mf185 rfl rfl (Nat.le_of_ble_eq_true rfl) rfl h2 (fun v3 σ3 h3 => ?_)
      refine r_istore ok188 83 rfl rfl ?_
      refine r_aload_n ok188 84 rfl rfl rfl ?_
      refine r_getI ok188 85 rfl rfl rfl rfl ?_
      refine r_if_ne ok188 86 rfl rfl (fun c4 => ?_) (fun c4 => ?_)
      · have h4 := h3.1 c4
        exact h4
      · have h4 := h3.2 c4
        refine r_aload_n ok188 87 rfl rfl rfl ?_
        refine r_getF ok188 88 rfl rfl rfl rfl ?_
        refine r_iload ok188 89 rfl rfl rfl ?_
        obtain ⟨c5, h5⟩ := h4
        refine r_zald ok188 90 rfl rfl rfl c5 ?_
        refine r_if_eq ok188 91 rfl rfl (fun c6 => ?_) (fun c6 => ?_)
        · have h6 := h5.1 c6
          exact h6
        · have h6 := h5.2 c6
          refine r_aload_n ok188 92 rfl rfl rfl ?_
          refine r_iconst (v := 3) ok188 93 rfl rfl rfl ?_
          refine r_invVv (as := [.int 3]) (S := []) ok188 94 rfl rfl mf176 rfl rfl (Nat.le_of_ble_eq_true rfl) rfl h6 (fun σ7 h7 => ?_)
          exact h7

set_option maxRecDepth 100000 in
set_option maxHeartbeats 4000000 in
theorem B188_223 {Θ : Th} {d : Nat} {σ : Mem} {Q : Po} {x1 : Int32} {x2 : Int64} 
    (h : (((σ.1 124 2) ≤ 0 → (vp_in x1 16 ∧ Q none (sI (sL σ 127 (x1.toNatClampNeg) x2) 124 25 (((sL σ 127 (x1.toNatClampNeg) x2).1 124 25) + 1)))) ∧ (¬ (σ.1 124 2) ≤ 0 → Q none σ))) :
    G Θ (d + 1) 188 223 [some (.ref 124), some (.int x1), some (.long x2), none, none] [] σ Q := by
  refine r_aload_n ok188 122 rfl rfl rfl ?_
  refine r_getI ok188 123 rfl rfl rfl rfl ?_
  refine r_if_le ok188 124 rfl rfl (fun c1 => ?_) (fun c1 => ?_)
  · have h1 := h.1 c1
    refine r_aload_n ok188 126 rfl rfl rfl ?_
    refine r_getF ok188 127 rfl rfl rfl rfl ?_
    refine r_iload_n ok188 128 rfl rfl rfl ?_
    refine r_lload_n ok188 129 rfl rfl rfl ?_
    obtain ⟨c2, h2⟩ := h1
    refine r_last ok188 130 rfl rfl rfl c2 ?_
    refine r_aload_n ok188 131 rfl rfl rfl ?_
    refine r_dup ok188 132 rfl rfl rfl ?_
    refine r_getI ok188 133 rfl rfl rfl rfl ?_
    refine r_iconst (v := 1) ok188 134 rfl rfl rfl ?_
    refine r_iadd ok188 135 rfl rfl ?_
    refine r_putI ok188 136 rfl rfl rfl rfl ?_
    exact r_ret ok188 137 rfl rfl rfl h2
  · have h1 := h.2 c1
    exact r_ret ok188 125 rfl rfl rfl h1

set_option maxRecDepth 100000 in
set_option maxHeartbeats 4000000 in
theorem B188_176 {Θ : Th} {d : Nat} {σ : Mem} {Q : Po} {x1 : Int32} {x2 : Int64} {x4 : Int32} 
    (h : (((σ.1 124 2) ≤ 0 → Cv Θ d 175 [.ref 124] σ (fun σ2 => (vp_in x4 6 ∧ (vp_in x4 6 ∧ Ci Θ d 181 [.ref 124, .int 0, .int ((sI σ2 138 (x4.toNatClampNeg) (vp_nar .boolean 1)).1 128 x4.toNatClampNeg)] (sI σ2 138 (x4.toNatClampNeg) (vp_nar .boolean 1)) (fun v5 σ5 => (vp_in ((6 * x1) + x4) 96 ∧ G Θ (d + 1) 188 131 [some (.ref 124), some (.int x1), some (.long x2), none, none] [] (sI σ5 129 (((6 * x1) + x4).toNatClampNeg) v5) Q)))))) ∧ (¬ (σ.1 124 2) ≤ 0 → Q none σ))) :
    G Θ (d + 1) 188 176 [some (.ref 124), some (.int x1), some (.long x2), none, some (.int x4)] [] σ Q := by
  refine r_aload_n ok188 95 rfl rfl rfl ?_
  refine r_getI ok188 96 rfl rfl rfl rfl ?_
  refine r_if_le ok188 97 rfl rfl (fun c1 => ?_) (fun c1 => ?_)
  · have h1 := h.1 c1
    refine r_aload_n ok188 99 rfl rfl rfl ?_
    refine r_invVv (as := []) (S := []) ok188 100 rfl rfl mf175 rfl rfl (Nat.le_of_ble_eq_true rfl) rfl h1 (fun σ2 h2 => ?_)
    refine r_aload_n ok188 101 rfl rfl rfl ?_
    refine r_getF ok188 102 rfl rfl rfl rfl ?_
    refine r_iload ok188 103 rfl rfl rfl ?_
    refine r_iconst (v := 1) ok188 104 rfl rfl rfl ?_
    obtain ⟨c3, h3⟩ := h2
    refine r_zast ok188 105 rfl rfl rfl c3 ?_
    refine r_aload_n ok188 106 rfl rfl rfl ?_
    refine r_getF ok188 107 rfl rfl rfl rfl ?_
    refine r_bipush (v := 6) ok188 108 rfl rfl rfl ?_
    refine r_iload_n ok188 109 rfl rfl rfl ?_
    refine r_imul ok188 110 rfl rfl ?_
    refine r_iload ok188 111 rfl rfl rfl ?_
    refine r_iadd ok188 112 rfl rfl ?_
    refine r_aload_n ok188 113 rfl rfl rfl ?_
    refine r_iconst (v := 0) ok188 114 rfl rfl rfl ?_
    refine r_aload_n ok188 115 rfl rfl rfl ?_
    refine r_getF ok188 116 rfl rfl rfl rfl ?_
    refine r_iload ok188 117 rfl rfl rfl ?_
    obtain ⟨c4, h4⟩ := h3
    refine r_iald ok188 118 rfl rfl rfl c4 ?_
    refine r_invVi (as := [.int 0, .int ((sI σ2 138 (x4.toNatClampNeg) (vp_nar .boolean 1)).1 128 x4.toNatClampNeg)]) (S := [.int ((6 * x1) + x4), .ref 129]) ok188 119 rfl rfl mf181 rfl rfl (Nat.le_of_ble_eq_true rfl) rfl h4 (fun v5 σ5 h5 => ?_)
    obtain ⟨c6, h6⟩ := h5
    refine r_iast ok188 120 rfl rfl rfl c6 ?_
    refine r_goto ok188 121 rfl rfl ?_
    exact G.weak (L' := [some (.ref 124), some (.int x1), some (.long x2), none, none]) ⟨rfl, ⟨rfl, ⟨rfl, trivial⟩⟩⟩ h6
  · have h1 := h.2 c1
    exact r_ret ok188 98 rfl rfl rfl h1

theorem K188 {Θ : Th} {d : Nat} {σ : Mem} {Q : Po} (h : G Θ (d + 1) 188 0 [some (.ref 124), none, none, none, none] [] σ Q) : Cm Θ (d + 1) 188 [.ref 124] σ Q :=
  C_of_G okM188 (Nat.le_of_ble_eq_true rfl) rfl h

-- 189: LikeYearsModel.readTold()V
set_option maxRecDepth 100000 in
set_option maxHeartbeats 4000000 in
theorem B189_0 {Θ : Th} {d : Nat} {σ : Mem} {Q : Po} 
    (h : Cv Θ d 175 [.ref 124] σ (fun σ1 => Ci Θ d 185 [.ref 124, .int 0] σ1 (fun v2 σ2 => (vp_in (σ1.1 124 26) 20 ∧ ((¬ ((sI σ2 134 ((σ1.1 124 26).toNatClampNeg) v2).1 124 2) = 0 → Cv Θ d 180 [.ref 124, .long 1870030194] (sI σ2 134 ((σ1.1 124 26).toNatClampNeg) v2) (fun σ5 => Ci Θ d 185 [.ref 124, .int 0] σ5 (fun v6 σ6 => (vp_in (σ5.1 124 26) 20 ∧ ((((sI σ6 135 ((σ5.1 124 26).toNatClampNeg) v6).1 124 2) ≤ 0 → (vp_in ((sI σ6 135 ((σ5.1 124 26).toNatClampNeg) v6).1 124 26) 20 ∧ Cv Θ d 175 [.ref 124] (sI (sI (sI σ6 135 ((σ5.1 124 26).toNatClampNeg) v6) 136 (((sI σ6 135 ((σ5.1 124 26).toNatClampNeg) v6).1 124 26).toNatClampNeg) ((sI σ6 135 ((σ5.1 124 26).toNatClampNeg) v6).1 124 7)) 124 26 (((sI (sI σ6 135 ((σ5.1 124 26).toNatClampNeg) v6) 136 (((sI σ6 135 ((σ5.1 124 26).toNatClampNeg) v6).1 124 26).toNatClampNeg) ((sI σ6 135 ((σ5.1 124 26).toNatClampNeg) v6).1 124 7)).1 124 26) + 1)) (fun σ10 => Q none σ10))) ∧ (¬ ((sI σ6 135 ((σ5.1 124 26).toNatClampNeg) v6).1 124 2) ≤ 0 → Q none (sI σ6 135 ((σ5.1 124 26).toNatClampNeg) v6))))))) ∧ (((sI σ2 134 ((σ1.1 124 26).toNatClampNeg) v2).1 124 2) = 0 → Cv Θ d 175 [.ref 124] (sI σ2 134 ((σ1.1 124 26).toNatClampNeg) v2) (fun σ11 => Cv Θ d 180 [.ref 124, .long 1870030194] σ11 (fun σ12 => Ci Θ d 185 [.ref 124, .int 0] σ12 (fun v13 σ13 => (vp_in (σ12.1 124 26) 20 ∧ ((((sI σ13 135 ((σ12.1 124 26).toNatClampNeg) v13).1 124 2) ≤ 0 → (vp_in ((sI σ13 135 ((σ12.1 124 26).toNatClampNeg) v13).1 124 26) 20 ∧ Cv Θ d 175 [.ref 124] (sI (sI (sI σ13 135 ((σ12.1 124 26).toNatClampNeg) v13) 136 (((sI σ13 135 ((σ12.1 124 26).toNatClampNeg) v13).1 124 26).toNatClampNeg) ((sI σ13 135 ((σ12.1 124 26).toNatClampNeg) v13).1 124 7)) 124 26 (((sI (sI σ13 135 ((σ12.1 124 26).toNatClampNeg) v13) 136 (((sI σ13 135 ((σ12.1 124 26).toNatClampNeg) v13).1 124 26).toNatClampNeg) ((sI σ13 135 ((σ12.1 124 26).toNatClampNeg) v13).1 124 7)).1 124 26) + 1)) (fun σ17 => Q none σ17))) ∧ (¬ ((sI σ13 135 ((σ12.1 124 26).toNatClampNeg) v13).1 124 2) ≤ 0 → Q none (sI σ13 135 ((σ12.1 124 26).toNatClampNeg) v13))))))))))))) :
    G Θ (d + 1) 189 0 [some (.ref 124)] [] σ Q := by
  refine r_aload_n ok189 0 rfl rfl rfl ?_
  refine r_invVv (as := []) (S := []) ok189 1 rfl rfl mf175 rfl rfl (Nat.le_of_ble_eq_true rfl) rfl h (fun σ1 h1 => ?_)
  refine r_aload_n ok189 2 rfl rfl rfl ?_
  refine r_getF ok189 3 rfl rfl rfl rfl ?_
  refine r_aload_n ok189 4 rfl rfl rfl ?_
  refine r_getI ok189 5 rfl rfl rfl rfl ?_
  refine r_aload_n ok189 6 rfl rfl rfl ?_
  refine r_iconst (v := 0) ok189 7 rfl rfl rfl ?_
  refine r_invVi (as := [.int 0]) (S := [.int (σ1.1 124 26), .ref 134]) ok189 8 rfl rfl mf185 rfl rfl (Nat.le_of_ble_eq_true rfl) rfl h1 (fun v2 σ2 h2 => ?_)
  obtain ⟨c3, h3⟩ := h2
  refine r_iast ok189 9 rfl rfl rfl c3 ?_
  refine r_aload_n ok189 10 rfl rfl rfl ?_
  refine r_getI ok189 11 rfl rfl rfl rfl ?_
  refine r_if_ne ok189 12 rfl rfl (fun c4 => ?_) (fun c4 => ?_)
  · have h4 := h3.1 c4
    refine r_aload_n ok189 15 rfl rfl rfl ?_
    refine r_ldc2_w (v := 1870030194) ok189 16 rfl rfl rfl ?_
    refine r_invVv (as := [.long 1870030194]) (S := []) ok189 17 rfl rfl mf180 rfl rfl (Nat.le_of_ble_eq_true rfl) rfl h4 (fun σ5 h5 => ?_)
    refine r_aload_n ok189 18 rfl rfl rfl ?_
    refine r_getF ok189 19 rfl rfl rfl rfl ?_
    refine r_aload_n ok189 20 rfl rfl rfl ?_
    refine r_getI ok189 21 rfl rfl rfl rfl ?_
    refine r_aload_n ok189 22 rfl rfl rfl ?_
    refine r_iconst (v := 0) ok189 23 rfl rfl rfl ?_
    refine r_invVi (as := [.int 0]) (S := [.int (σ5.1 124 26), .ref 135]) ok189 24 rfl rfl mf185 rfl rfl (Nat.le_of_ble_eq_true rfl) rfl h5 (fun v6 σ6 h6 => ?_)
    obtain ⟨c7, h7⟩ := h6
    refine r_iast ok189 25 rfl rfl rfl c7 ?_
    refine r_aload_n ok189 26 rfl rfl rfl ?_
    refine r_getI ok189 27 rfl rfl rfl rfl ?_
    refine r_if_le ok189 28 rfl rfl (fun c8 => ?_) (fun c8 => ?_)
    · have h8 := h7.1 c8
      refine r_aload_n ok189 30 rfl rfl rfl ?_
      refine r_getF ok189 31 rfl rfl rfl rfl ?_
      refine r_aload_n ok189 32 rfl rfl rfl ?_
      refine r_getI ok189 33 rfl rfl rfl rfl ?_
      refine r_aload_n ok189 34 rfl rfl rfl ?_
      refine r_getI ok189 35 rfl rfl rfl rfl ?_
      obtain ⟨c9, h9⟩ := h8
      refine r_iast ok189 36 rfl rfl rfl c9 ?_
      refine r_aload_n ok189 37 rfl rfl rfl ?_
      refine r_dup ok189 38 rfl rfl rfl ?_
      refine r_getI ok189 39 rfl rfl rfl rfl ?_
      refine r_iconst (v := 1) ok189 40 rfl rfl rfl ?_
      refine r_iadd ok189 41 rfl rfl ?_
      refine r_putI ok189 42 rfl rfl rfl rfl ?_
      refine r_aload_n ok189 43 rfl rfl rfl ?_
      refine r_invVv (as := []) (S := []) ok189 44 rfl rfl mf175 rfl rfl (Nat.le_of_ble_eq_true rfl) rfl h9 (fun σ10 h10 => ?_)
      exact r_ret ok189 45 rfl rfl rfl h10
    · have h8 := h7.2 c8
      exact r_ret ok189 29 rfl rfl rfl h8
  · have h4 := h3.2 c4
    refine r_aload_n ok189 13 rfl rfl rfl ?_
    refine r_invVv (as := []) (S := []) ok189 14 rfl rfl mf175 rfl rfl (Nat.le_of_ble_eq_true rfl) rfl h4 (fun σ11 h11 => ?_)
    refine r_aload_n ok189 15 rfl rfl rfl ?_
    refine r_ldc2_w (v := 1870030194) ok189 16 rfl rfl rfl ?_
    refine r_invVv (as := [.long 1870030194]) (S := []) ok189 17 rfl rfl mf180 rfl rfl (Nat.le_of_ble_eq_true rfl) rfl h11 (fun σ12 h12 => ?_)
    refine r_aload_n ok189 18 rfl rfl rfl ?_
    refine r_getF ok189 19 rfl rfl rfl rfl ?_
    refine r_aload_n ok189 20 rfl rfl rfl ?_
    refine r_getI ok189 21 rfl rfl rfl rfl ?_
    refine r_aload_n ok189 22 rfl rfl rfl ?_
    refine r_iconst (v := 0) ok189 23 rfl rfl rfl ?_
    refine r_invVi (as := [.int 0]) (S := [.int (σ12.1 124 26), .ref 135]) ok189 24 rfl rfl mf185 rfl rfl (Nat.le_of_ble_eq_true rfl) rfl h12 (fun v13 σ13 h13 => ?_)
    obtain ⟨c14, h14⟩ := h13
    refine r_iast ok189 25 rfl rfl rfl c14 ?_
    refine r_aload_n ok189 26 rfl rfl rfl ?_
    refine r_getI ok189 27 rfl rfl rfl rfl ?_
    refine r_if_le ok189 28 rfl rfl (fun c15 => ?_) (fun c15 => ?_)
    · have h15 := h14.1 c15
      refine r_aload_n ok189 30 rfl rfl rfl ?_
      refine r_getF ok189 31 rfl rfl rfl rfl ?_
      refine r_aload_n ok189 32 rfl rfl rfl ?_
      refine r_getI ok189 33 rfl rfl rfl rfl ?_
      refine r_aload_n ok189 34 rfl rfl rfl ?_
      refine r_getI ok189 35 rfl rfl rfl rfl ?_
      obtain ⟨c16, h16⟩ := h15
      refine r_iast ok189 36 rfl rfl rfl c16 ?_
      refine r_aload_n ok189 37 rfl rfl rfl ?_
      refine r_dup ok189 38 rfl rfl rfl ?_
      refine r_getI ok189 39 rfl rfl rfl rfl ?_
      refine r_iconst (v := 1) ok189 40 rfl rfl rfl ?_
      refine r_iadd ok189 41 rfl rfl ?_
      refine r_putI ok189 42 rfl rfl rfl rfl ?_
      refine r_aload_n ok189 43 rfl rfl rfl ?_
      refine r_invVv (as := []) (S := []) ok189 44 rfl rfl mf175 rfl rfl (Nat.le_of_ble_eq_true rfl) rfl h16 (fun σ17 h17 => ?_)
      exact r_ret ok189 45 rfl rfl rfl h17
    · have h15 := h14.2 c15
      exact r_ret ok189 29 rfl rfl rfl h15

theorem K189 {Θ : Th} {d : Nat} {σ : Mem} {Q : Po} (h : G Θ (d + 1) 189 0 [some (.ref 124)] [] σ Q) : Cm Θ (d + 1) 189 [.ref 124] σ Q :=
  C_of_G okM189 (Nat.le_of_ble_eq_true rfl) rfl h

-- 190: LikeYearsModel.readLine()V
set_option maxRecDepth 100000 in
set_option maxHeartbeats 4000000 in
theorem B190_0 {Θ : Th} {d : Nat} {σ : Mem} {Q : Po} 
    (h : Ci Θ d 177 [.ref 124, .long 1835102827] σ (fun v1 σ1 => ((v1 = 0 → G Θ (d + 1) 190 26 [some (.ref 124)] [] σ1 Q) ∧ (¬ v1 = 0 → ((6 ≤ (σ1.1 124 24) → G Θ (d + 1) 190 26 [some (.ref 124)] [] σ1 Q) ∧ (¬ 6 ≤ (σ1.1 124 24) → Cv Θ d 186 [.ref 124] σ1 (fun σ4 => G Θ (d + 1) 190 100 [some (.ref 124)] [] σ4 Q))))))) :
    G Θ (d + 1) 190 0 [some (.ref 124)] [] σ Q := by
  refine r_aload_n ok190 0 rfl rfl rfl ?_
  refine r_ldc2_w (v := 1835102827) ok190 1 rfl rfl rfl ?_
  refine r_invVi (as := [.long 1835102827]) (S := []) ok190 2 rfl rfl mf177 rfl rfl (Nat.le_of_ble_eq_true rfl) rfl h (fun v1 σ1 h1 => ?_)
  refine r_if_eq ok190 3 rfl rfl (fun c2 => ?_) (fun c2 => ?_)
  · have h2 := h1.1 c2
    exact h2
  · have h2 := h1.2 c2
    refine r_aload_n ok190 4 rfl rfl rfl ?_
    refine r_getI ok190 5 rfl rfl rfl rfl ?_
    refine r_bipush (v := 6) ok190 6 rfl rfl rfl ?_
    refine r_icmp_ge ok190 7 rfl rfl (fun c3 => ?_) (fun c3 => ?_)
    · have h3 := h2.1 c3
      exact h3
    · have h3 := h2.2 c3
      refine r_aload_n ok190 8 rfl rfl rfl ?_
      refine r_invVv (as := []) (S := []) ok190 9 rfl rfl mf186 rfl rfl (Nat.le_of_ble_eq_true rfl) rfl h3 (fun σ4 h4 => ?_)
      refine r_goto ok190 10 rfl rfl ?_
      exact h4

set_option maxRecDepth 100000 in
set_option maxHeartbeats 4000000 in
theorem B190_26 {Θ : Th} {d : Nat} {σ : Mem} {Q : Po} 
    (h : Ci Θ d 177 [.ref 124, .long 474148660594] σ (fun v1 σ1 => ((v1 = 0 → Ci Θ d 177 [.ref 124, .long 1667330917] σ1 (fun v3 σ3 => ((v3 = 0 → G Θ (d + 1) 190 69 [some (.ref 124)] [] σ3 Q) ∧ (¬ v3 = 0 → ((16 ≤ (σ3.1 124 25) → G Θ (d + 1) 190 69 [some (.ref 124)] [] σ3 Q) ∧ (¬ 16 ≤ (σ3.1 124 25) → Cv Θ d 188 [.ref 124] σ3 (fun σ6 => G Θ (d + 1) 190 100 [some (.ref 124)] [] σ6 Q))))))) ∧ (¬ v1 = 0 → Cv Θ d 187 [.ref 124] σ1 (fun σ7 => G Θ (d + 1) 190 100 [some (.ref 124)] [] σ7 Q))))) :
    G Θ (d + 1) 190 26 [some (.ref 124)] [] σ Q := by
  refine r_aload_n ok190 11 rfl rfl rfl ?_
  refine r_ldc2_w (v := 474148660594) ok190 12 rfl rfl rfl ?_
  refine r_invVi (as := [.long 474148660594]) (S := []) ok190 13 rfl rfl mf177 rfl rfl (Nat.le_of_ble_eq_true rfl) rfl h (fun v1 σ1 h1 => ?_)
  refine r_if_eq ok190 14 rfl rfl (fun c2 => ?_) (fun c2 => ?_)
  · have h2 := h1.1 c2
    refine r_aload_n ok190 18 rfl rfl rfl ?_
    refine r_ldc2_w (v := 1667330917) ok190 19 rfl rfl rfl ?_
    refine r_invVi (as := [.long 1667330917]) (S := []) ok190 20 rfl rfl mf177 rfl rfl (Nat.le_of_ble_eq_true rfl) rfl h2 (fun v3 σ3 h3 => ?_)
    refine r_if_eq ok190 21 rfl rfl (fun c4 => ?_) (fun c4 => ?_)
    · have h4 := h3.1 c4
      exact h4
    · have h4 := h3.2 c4
      refine r_aload_n ok190 22 rfl rfl rfl ?_
      refine r_getI ok190 23 rfl rfl rfl rfl ?_
      refine r_bipush (v := 16) ok190 24 rfl rfl rfl ?_
      refine r_icmp_ge ok190 25 rfl rfl (fun c5 => ?_) (fun c5 => ?_)
      · have h5 := h4.1 c5
        exact h5
      · have h5 := h4.2 c5
        refine r_aload_n ok190 26 rfl rfl rfl ?_
        refine r_invVv (as := []) (S := []) ok190 27 rfl rfl mf188 rfl rfl (Nat.le_of_ble_eq_true rfl) rfl h5 (fun σ6 h6 => ?_)
        refine r_goto ok190 28 rfl rfl ?_
        exact h6
  · have h2 := h1.2 c2
    refine r_aload_n ok190 15 rfl rfl rfl ?_
    refine r_invVv (as := []) (S := []) ok190 16 rfl rfl mf187 rfl rfl (Nat.le_of_ble_eq_true rfl) rfl h2 (fun σ7 h7 => ?_)
    refine r_goto ok190 17 rfl rfl ?_
    exact h7

set_option maxRecDepth 100000 in
set_option maxHeartbeats 4000000 in
theorem B190_100 {Θ : Th} {d : Nat} {σ : Mem} {Q : Po} 
    (h : ((¬ (σ.1 124 2) = 0 → G Θ (d + 1) 190 121 [some (.ref 124)] [] σ Q) ∧ ((σ.1 124 2) = 0 → (((σ.1 124 6) = 59 → G Θ (d + 1) 190 121 [some (.ref 124)] [] σ Q) ∧ (¬ (σ.1 124 6) = 59 → Cv Θ d 176 [.ref 124, .int 2] σ (fun σ3 => G Θ (d + 1) 190 121 [some (.ref 124)] [] σ3 Q)))))) :
    G Θ (d + 1) 190 100 [some (.ref 124)] [] σ Q := by
  refine r_aload_n ok190 43 rfl rfl rfl ?_
  refine r_getI ok190 44 rfl rfl rfl rfl ?_
  refine r_if_ne ok190 45 rfl rfl (fun c1 => ?_) (fun c1 => ?_)
  · have h1 := h.1 c1
    exact h1
  · have h1 := h.2 c1
    refine r_aload_n ok190 46 rfl rfl rfl ?_
    refine r_getI ok190 47 rfl rfl rfl rfl ?_
    refine r_bipush (v := 59) ok190 48 rfl rfl rfl ?_
    refine r_icmp_eq ok190 49 rfl rfl (fun c2 => ?_) (fun c2 => ?_)
    · have h2 := h1.1 c2
      exact h2
    · have h2 := h1.2 c2
      refine r_aload_n ok190 50 rfl rfl rfl ?_
      refine r_iconst (v := 2) ok190 51 rfl rfl rfl ?_
      refine r_invVv (as := [.int 2]) (S := []) ok190 52 rfl rfl mf176 rfl rfl (Nat.le_of_ble_eq_true rfl) rfl h2 (fun σ3 h3 => ?_)
      exact h3

set_option maxRecDepth 100000 in
set_option maxHeartbeats 4000000 in
theorem B190_69 {Θ : Th} {d : Nat} {σ : Mem} {Q : Po} 
    (h : Ci Θ d 177 [.ref 124, .long 1953459300] σ (fun v1 σ1 => ((v1 = 0 → G Θ (d + 1) 190 95 [some (.ref 124)] [] σ1 Q) ∧ (¬ v1 = 0 → ((20 ≤ (σ1.1 124 26) → G Θ (d + 1) 190 95 [some (.ref 124)] [] σ1 Q) ∧ (¬ 20 ≤ (σ1.1 124 26) → Cv Θ d 189 [.ref 124] σ1 (fun σ4 => G Θ (d + 1) 190 100 [some (.ref 124)] [] σ4 Q))))))) :
    G Θ (d + 1) 190 69 [some (.ref 124)] [] σ Q := by
  refine r_aload_n ok190 29 rfl rfl rfl ?_
  refine r_ldc2_w (v := 1953459300) ok190 30 rfl rfl rfl ?_
  refine r_invVi (as := [.long 1953459300]) (S := []) ok190 31 rfl rfl mf177 rfl rfl (Nat.le_of_ble_eq_true rfl) rfl h (fun v1 σ1 h1 => ?_)
  refine r_if_eq ok190 32 rfl rfl (fun c2 => ?_) (fun c2 => ?_)
  · have h2 := h1.1 c2
    exact h2
  · have h2 := h1.2 c2
    refine r_aload_n ok190 33 rfl rfl rfl ?_
    refine r_getI ok190 34 rfl rfl rfl rfl ?_
    refine r_bipush (v := 20) ok190 35 rfl rfl rfl ?_
    refine r_icmp_ge ok190 36 rfl rfl (fun c3 => ?_) (fun c3 => ?_)
    · have h3 := h2.1 c3
      exact h3
    · have h3 := h2.2 c3
      refine r_aload_n ok190 37 rfl rfl rfl ?_
      refine r_invVv (as := []) (S := []) ok190 38 rfl rfl mf189 rfl rfl (Nat.le_of_ble_eq_true rfl) rfl h3 (fun σ4 h4 => ?_)
      refine r_goto ok190 39 rfl rfl ?_
      exact h4

set_option maxRecDepth 100000 in
set_option maxHeartbeats 4000000 in
theorem B190_121 {Θ : Th} {d : Nat} {σ : Mem} {Q : Po} 
    (h : (((σ.1 124 2) ≤ 0 → Cv Θ d 175 [.ref 124] σ (fun σ2 => Q none (sI σ2 124 27 ((σ2.1 124 27) + 1)))) ∧ (¬ (σ.1 124 2) ≤ 0 → Q none σ))) :
    G Θ (d + 1) 190 121 [some (.ref 124)] [] σ Q := by
  refine r_aload_n ok190 53 rfl rfl rfl ?_
  refine r_getI ok190 54 rfl rfl rfl rfl ?_
  refine r_if_le ok190 55 rfl rfl (fun c1 => ?_) (fun c1 => ?_)
  · have h1 := h.1 c1
    refine r_aload_n ok190 57 rfl rfl rfl ?_
    refine r_invVv (as := []) (S := []) ok190 58 rfl rfl mf175 rfl rfl (Nat.le_of_ble_eq_true rfl) rfl h1 (fun σ2 h2 => ?_)
    refine r_aload_n ok190 59 rfl rfl rfl ?_
    refine r_dup ok190 60 rfl rfl rfl ?_
    refine r_getI ok190 61 rfl rfl rfl rfl ?_
    refine r_iconst (v := 1) ok190 62 rfl rfl rfl ?_
    refine r_iadd ok190 63 rfl rfl ?_
    refine r_putI ok190 64 rfl rfl rfl rfl ?_
    exact r_ret ok190 65 rfl rfl rfl h2
  · have h1 := h.2 c1
    exact r_ret ok190 56 rfl rfl rfl h1

set_option maxRecDepth 100000 in
set_option maxHeartbeats 4000000 in
theorem B190_95 {Θ : Th} {d : Nat} {σ : Mem} {Q : Po} 
    (h : Cv Θ d 176 [.ref 124, .int 2] σ (fun σ1 => G Θ (d + 1) 190 100 [some (.ref 124)] [] σ1 Q)) :
    G Θ (d + 1) 190 95 [some (.ref 124)] [] σ Q := by
  refine r_aload_n ok190 40 rfl rfl rfl ?_
  refine r_iconst (v := 2) ok190 41 rfl rfl rfl ?_
  refine r_invVv (as := [.int 2]) (S := []) ok190 42 rfl rfl mf176 rfl rfl (Nat.le_of_ble_eq_true rfl) rfl h (fun σ1 h1 => ?_)
  exact h1

theorem K190 {Θ : Th} {d : Nat} {σ : Mem} {Q : Po} (h : G Θ (d + 1) 190 0 [some (.ref 124)] [] σ Q) : Cm Θ (d + 1) 190 [.ref 124] σ Q :=
  C_of_G okM190 (Nat.le_of_ble_eq_true rfl) rfl h

-- 191: LikeYearsModel.book()I
set_option maxRecDepth 100000 in
set_option maxHeartbeats 4000000 in
theorem B191_0 {Θ : Th} {d : Nat} {σ : Mem} {Q : Po} 
    (h : Cv Θ d 175 [.ref 124] (sI (sI (sI (sI (sI (sI (sI (sI (sI (sI σ 124 10 0) 124 5 ((sI σ 124 10 0).1 124 1)) 124 1 0) 124 4 0) 124 2 0) 124 3 (-1)) 124 24 0) 124 25 0) 124 26 0) 124 27 0) (fun σ1 => G Θ (d + 1) 191 57 [some (.ref 124), none, none] [] σ1 Q)) :
    G Θ (d + 1) 191 0 [some (.ref 124), none, none] [] σ Q := by
  refine r_aload_n ok191 0 rfl rfl rfl ?_
  refine r_iconst (v := 0) ok191 1 rfl rfl rfl ?_
  refine r_putZ ok191 2 rfl rfl rfl rfl (Or.inl rfl) ?_
  refine r_aload_n ok191 3 rfl rfl rfl ?_
  refine r_aload_n ok191 4 rfl rfl rfl ?_
  refine r_getI ok191 5 rfl rfl rfl rfl ?_
  refine r_putI ok191 6 rfl rfl rfl rfl ?_
  refine r_aload_n ok191 7 rfl rfl rfl ?_
  refine r_iconst (v := 0) ok191 8 rfl rfl rfl ?_
  refine r_putI ok191 9 rfl rfl rfl rfl ?_
  refine r_aload_n ok191 10 rfl rfl rfl ?_
  refine r_iconst (v := 0) ok191 11 rfl rfl rfl ?_
  refine r_putI ok191 12 rfl rfl rfl rfl ?_
  refine r_aload_n ok191 13 rfl rfl rfl ?_
  refine r_iconst (v := 0) ok191 14 rfl rfl rfl ?_
  refine r_putI ok191 15 rfl rfl rfl rfl ?_
  refine r_aload_n ok191 16 rfl rfl rfl ?_
  refine r_iconst (v := (-1)) ok191 17 rfl rfl rfl ?_
  refine r_putI ok191 18 rfl rfl rfl rfl ?_
  refine r_aload_n ok191 19 rfl rfl rfl ?_
  refine r_iconst (v := 0) ok191 20 rfl rfl rfl ?_
  refine r_putI ok191 21 rfl rfl rfl rfl ?_
  refine r_aload_n ok191 22 rfl rfl rfl ?_
  refine r_iconst (v := 0) ok191 23 rfl rfl rfl ?_
  refine r_putI ok191 24 rfl rfl rfl rfl ?_
  refine r_aload_n ok191 25 rfl rfl rfl ?_
  refine r_iconst (v := 0) ok191 26 rfl rfl rfl ?_
  refine r_putI ok191 27 rfl rfl rfl rfl ?_
  refine r_aload_n ok191 28 rfl rfl rfl ?_
  refine r_iconst (v := 0) ok191 29 rfl rfl rfl ?_
  refine r_putI ok191 30 rfl rfl rfl rfl ?_
  refine r_aload_n ok191 31 rfl rfl rfl ?_
  refine r_invVv (as := []) (S := []) ok191 32 rfl rfl mf175 rfl rfl (Nat.le_of_ble_eq_true rfl) rfl h (fun σ1 h1 => ?_)
  exact h1

set_option maxRecDepth 100000 in
set_option maxHeartbeats 4000000 in
theorem B191_57 {Θ : Th} {d : Nat} {σ : Mem} {Q : Po} 
    (h : ((¬ (σ.1 124 2) = 0 → G Θ (d + 1) 191 78 [some (.ref 124), none, none] [] σ Q) ∧ ((σ.1 124 2) = 0 → (((σ.1 124 6) = 0 → G Θ (d + 1) 191 78 [some (.ref 124), none, none] [] σ Q) ∧ (¬ (σ.1 124 6) = 0 → Cv Θ d 190 [.ref 124] σ (fun σ3 => G Θ (d + 1) 191 57 [some (.ref 124), none, none] [] σ3 Q)))))) :
    G Θ (d + 1) 191 57 [some (.ref 124), none, none] [] σ Q := by
  refine r_aload_n ok191 33 rfl rfl rfl ?_
  refine r_getI ok191 34 rfl rfl rfl rfl ?_
  refine r_if_ne ok191 35 rfl rfl (fun c1 => ?_) (fun c1 => ?_)
  · have h1 := h.1 c1
    exact h1
  · have h1 := h.2 c1
    refine r_aload_n ok191 36 rfl rfl rfl ?_
    refine r_getI ok191 37 rfl rfl rfl rfl ?_
    refine r_if_eq ok191 38 rfl rfl (fun c2 => ?_) (fun c2 => ?_)
    · have h2 := h1.1 c2
      exact h2
    · have h2 := h1.2 c2
      refine r_aload_n ok191 39 rfl rfl rfl ?_
      refine r_invVv (as := []) (S := []) ok191 40 rfl rfl mf190 rfl rfl (Nat.le_of_ble_eq_true rfl) rfl h2 (fun σ3 h3 => ?_)
      refine r_goto ok191 41 rfl rfl ?_
      exact h3

set_option maxRecDepth 100000 in
set_option maxHeartbeats 4000000 in
theorem B191_78 {Θ : Th} {d : Nat} {σ : Mem} {Q : Po} 
    (h : (((σ.1 124 2) ≤ 0 → Ci Θ d 194 [.ref 124] σ (fun v2 σ2 => ((v2 < 0 → G Θ (d + 1) 191 116 [some (.ref 124), none, some (.int 0)] [] σ2 Q) ∧ (¬ v2 < 0 → (vp_in v2 20 ∧ Q (some (.int (-1))) (sI (sI σ2 124 2 6) 124 3 ((sI σ2 124 2 6).1 136 v2.toNatClampNeg))))))) ∧ (¬ (σ.1 124 2) ≤ 0 → Q (some (.int (-1))) σ))) :
    G Θ (d + 1) 191 78 [some (.ref 124), none, none] [] σ Q := by
  refine r_aload_n ok191 42 rfl rfl rfl ?_
  refine r_getI ok191 43 rfl rfl rfl rfl ?_
  refine r_if_le ok191 44 rfl rfl (fun c1 => ?_) (fun c1 => ?_)
  · have h1 := h.1 c1
    refine r_aload_n ok191 47 rfl rfl rfl ?_
    refine r_invVi (as := []) (S := []) ok191 48 rfl rfl mf194 rfl rfl (Nat.le_of_ble_eq_true rfl) rfl h1 (fun v2 σ2 h2 => ?_)
    refine r_istore_n ok191 49 rfl rfl ?_
    refine r_iload_n ok191 50 rfl rfl rfl ?_
    refine r_if_lt ok191 51 rfl rfl (fun c3 => ?_) (fun c3 => ?_)
    · have h3 := h2.1 c3
      refine r_iconst (v := 0) ok191 63 rfl rfl rfl ?_
      refine r_istore_n ok191 64 rfl rfl ?_
      exact G.weak (L' := [some (.ref 124), none, some (.int 0)]) ⟨rfl, ⟨rfl, trivial⟩⟩ h3
    · have h3 := h2.2 c3
      refine r_aload_n ok191 52 rfl rfl rfl ?_
      refine r_bipush (v := 6) ok191 53 rfl rfl rfl ?_
      refine r_putI ok191 54 rfl rfl rfl rfl ?_
      refine r_aload_n ok191 55 rfl rfl rfl ?_
      refine r_aload_n ok191 56 rfl rfl rfl ?_
      refine r_getF ok191 57 rfl rfl rfl rfl ?_
      refine r_iload_n ok191 58 rfl rfl rfl ?_
      obtain ⟨c4, h4⟩ := h3
      refine r_iald ok191 59 rfl rfl rfl c4 ?_
      refine r_putI ok191 60 rfl rfl rfl rfl ?_
      refine r_iconst (v := (-1)) ok191 61 rfl rfl rfl ?_
      exact r_iret ok191 62 rfl rfl rfl h4
  · have h1 := h.2 c1
    refine r_iconst (v := (-1)) ok191 45 rfl rfl rfl ?_
    exact r_iret ok191 46 rfl rfl rfl h1

set_option maxRecDepth 100000 in
set_option maxHeartbeats 4000000 in
theorem B191_116 {Θ : Th} {d : Nat} {σ : Mem} {Q : Po} {x2 : Int32} 
    (h : ((6 ≤ x2 → G Θ (d + 1) 191 194 [some (.ref 124), none, some (.int 0)] [] (sI σ 124 70 0) Q) ∧ (¬ 6 ≤ x2 → (vp_in x2 6 ∧ (vp_in x2 6 ∧ ((((sI σ 139 (x2.toNatClampNeg) (σ.1 128 x2.toNatClampNeg)).1 124 24) ≤ x2 → (vp_in x2 6 ∧ (vp_in x2 6 ∧ (vp_in x2 6 ∧ (vp_in x2 6 ∧ G Θ (d + 1) 191 116 [some (.ref 124), none, some (.int (x2 + 1))] [] (sL (sI (sI (sI σ 139 (x2.toNatClampNeg) (σ.1 128 x2.toNatClampNeg)) 147 (x2.toNatClampNeg) (vp_nar .boolean 0)) 173 (x2.toNatClampNeg) 0) 148 (x2.toNatClampNeg) ((sI (sI (sI σ 139 (x2.toNatClampNeg) (σ.1 128 x2.toNatClampNeg)) 147 (x2.toNatClampNeg) (vp_nar .boolean 0)) 173 (x2.toNatClampNeg) 0).2.1 126 x2.toNatClampNeg)) Q))))) ∧ (¬ ((sI σ 139 (x2.toNatClampNeg) (σ.1 128 x2.toNatClampNeg)).1 124 24) ≤ x2 → (vp_in x2 6 ∧ ((¬ ((sI σ 139 (x2.toNatClampNeg) (σ.1 128 x2.toNatClampNeg)).1 137 x2.toNatClampNeg) = 0 → (vp_in x2 6 ∧ (vp_in x2 6 ∧ (vp_in x2 6 ∧ (vp_in x2 6 ∧ G Θ (d + 1) 191 116 [some (.ref 124), none, some (.int (x2 + 1))] [] (sL (sI (sI (sI σ 139 (x2.toNatClampNeg) (σ.1 128 x2.toNatClampNeg)) 147 (x2.toNatClampNeg) (vp_nar .boolean 0)) 173 (x2.toNatClampNeg) 0) 148 (x2.toNatClampNeg) ((sI (sI (sI σ 139 (x2.toNatClampNeg) (σ.1 128 x2.toNatClampNeg)) 147 (x2.toNatClampNeg) (vp_nar .boolean 0)) 173 (x2.toNatClampNeg) 0).2.1 126 x2.toNatClampNeg)) Q))))) ∧ (((sI σ 139 (x2.toNatClampNeg) (σ.1 128 x2.toNatClampNeg)).1 137 x2.toNatClampNeg) = 0 → (vp_in x2 6 ∧ (vp_in x2 6 ∧ (vp_in x2 6 ∧ (vp_in x2 6 ∧ G Θ (d + 1) 191 116 [some (.ref 124), none, some (.int (x2 + 1))] [] (sL (sI (sI (sI σ 139 (x2.toNatClampNeg) (σ.1 128 x2.toNatClampNeg)) 147 (x2.toNatClampNeg) (vp_nar .boolean 1)) 173 (x2.toNatClampNeg) 0) 148 (x2.toNatClampNeg) ((sI (sI (sI σ 139 (x2.toNatClampNeg) (σ.1 128 x2.toNatClampNeg)) 147 (x2.toNatClampNeg) (vp_nar .boolean 1)) 173 (x2.toNatClampNeg) 0).2.1 126 x2.toNatClampNeg)) Q)))))))))))))) :
    G Θ (d + 1) 191 116 [some (.ref 124), none, some (.int x2)] [] σ Q := by
  refine r_iload_n ok191 65 rfl rfl rfl ?_
  refine r_bipush (v := 6) ok191 66 rfl rfl rfl ?_
  refine r_icmp_ge ok191 67 rfl rfl (fun c1 => ?_) (fun c1 => ?_)
  · have h1 := h.1 c1
    refine r_aload_n ok191 107 rfl rfl rfl ?_
    refine r_iconst (v := 0) ok191 108 rfl rfl rfl ?_
    refine r_putI ok191 109 rfl rfl rfl rfl ?_
    refine r_iconst (v := 0) ok191 110 rfl rfl rfl ?_
    refine r_istore_n ok191 111 rfl rfl ?_
    exact h1
  · have h1 := h.2 c1
    refine r_aload_n ok191 68 rfl rfl rfl ?_
    refine r_getF ok191 69 rfl rfl rfl rfl ?_
    refine r_iload_n ok191 70 rfl rfl rfl ?_
    refine r_aload_n ok191 71 rfl rfl rfl ?_
    refine r_getF ok191 72 rfl rfl rfl rfl ?_
    refine r_iload_n ok191 73 rfl rfl rfl ?_
    obtain ⟨c2, h2⟩ := h1
    refine r_iald ok191 74 rfl rfl rfl c2 ?_
    obtain ⟨c3, h3⟩ := h2
    refine r_iast ok191 75 rfl rfl rfl c3 ?_
    refine r_aload_n ok191 76 rfl rfl rfl ?_
    refine r_getF ok191 77 rfl rfl rfl rfl ?_
    refine r_iload_n ok191 78 rfl rfl rfl ?_
    refine r_iload_n ok191 79 rfl rfl rfl ?_
    refine r_aload_n ok191 80 rfl rfl rfl ?_
    refine r_getI ok191 81 rfl rfl rfl rfl ?_
    refine r_icmp_ge ok191 82 rfl rfl (fun c4 => ?_) (fun c4 => ?_)
    · have h4 := h3.1 c4
      refine r_iconst (v := 0) ok191 90 rfl rfl rfl ?_
      obtain ⟨c5, h5⟩ := h4
      refine r_zast ok191 91 rfl rfl rfl c5 ?_
      refine r_aload_n ok191 92 rfl rfl rfl ?_
      refine r_getF ok191 93 rfl rfl rfl rfl ?_
      refine r_iload_n ok191 94 rfl rfl rfl ?_
      refine r_iconst (v := 0) ok191 95 rfl rfl rfl ?_
      obtain ⟨c6, h6⟩ := h5
      refine r_iast ok191 96 rfl rfl rfl c6 ?_
      refine r_aload_n ok191 97 rfl rfl rfl ?_
      refine r_getF ok191 98 rfl rfl rfl rfl ?_
      refine r_iload_n ok191 99 rfl rfl rfl ?_
      refine r_aload_n ok191 100 rfl rfl rfl ?_
      refine r_getF ok191 101 rfl rfl rfl rfl ?_
      refine r_iload_n ok191 102 rfl rfl rfl ?_
      obtain ⟨c7, h7⟩ := h6
      refine r_lald ok191 103 rfl rfl rfl c7 ?_
      obtain ⟨c8, h8⟩ := h7
      refine r_last ok191 104 rfl rfl rfl c8 ?_
      refine r_iinc (v := x2 + 1) ok191 105 rfl rfl rfl rfl ?_
      refine r_goto ok191 106 rfl rfl ?_
      exact h8
    · have h4 := h3.2 c4
      refine r_aload_n ok191 83 rfl rfl rfl ?_
      refine r_getF ok191 84 rfl rfl rfl rfl ?_
      refine r_iload_n ok191 85 rfl rfl rfl ?_
      obtain ⟨c9, h9⟩ := h4
      refine r_zald ok191 86 rfl rfl rfl c9 ?_
      refine r_if_ne ok191 87 rfl rfl (fun c10 => ?_) (fun c10 => ?_)
      · have h10 := h9.1 c10
        refine r_iconst (v := 0) ok191 90 rfl rfl rfl ?_
        obtain ⟨c11, h11⟩ := h10
        refine r_zast ok191 91 rfl rfl rfl c11 ?_
        refine r_aload_n ok191 92 rfl rfl rfl ?_
        refine r_getF ok191 93 rfl rfl rfl rfl ?_
        refine r_iload_n ok191 94 rfl rfl rfl ?_
        refine r_iconst (v := 0) ok191 95 rfl rfl rfl ?_
        obtain ⟨c12, h12⟩ := h11
        refine r_iast ok191 96 rfl rfl rfl c12 ?_
        refine r_aload_n ok191 97 rfl rfl rfl ?_
        refine r_getF ok191 98 rfl rfl rfl rfl ?_
        refine r_iload_n ok191 99 rfl rfl rfl ?_
        refine r_aload_n ok191 100 rfl rfl rfl ?_
        refine r_getF ok191 101 rfl rfl rfl rfl ?_
        refine r_iload_n ok191 102 rfl rfl rfl ?_
        obtain ⟨c13, h13⟩ := h12
        refine r_lald ok191 103 rfl rfl rfl c13 ?_
        obtain ⟨c14, h14⟩ := h13
        refine r_last ok191 104 rfl rfl rfl c14 ?_
        refine r_iinc (v := x2 + 1) ok191 105 rfl rfl rfl rfl ?_
        refine r_goto ok191 106 rfl rfl ?_
        exact h14
      · have h10 := h9.2 c10
        refine r_iconst (v := 1) ok191 88 rfl rfl rfl ?_
        refine r_goto ok191 89 rfl rfl ?_
        obtain ⟨c15, h15⟩ := h10
        refine r_zast ok191 91 rfl rfl rfl c15 ?_
        refine r_aload_n ok191 92 rfl rfl rfl ?_
        refine r_getF ok191 93 rfl rfl rfl rfl ?_
        refine r_iload_n ok191 94 rfl rfl rfl ?_
        refine r_iconst (v := 0) ok191 95 rfl rfl rfl ?_
        obtain ⟨c16, h16⟩ := h15
        refine r_iast ok191 96 rfl rfl rfl c16 ?_
        refine r_aload_n ok191 97 rfl rfl rfl ?_
        refine r_getF ok191 98 rfl rfl rfl rfl ?_
        refine r_iload_n ok191 99 rfl rfl rfl ?_
        refine r_aload_n ok191 100 rfl rfl rfl ?_
        refine r_getF ok191 101 rfl rfl rfl rfl ?_
        refine r_iload_n ok191 102 rfl rfl rfl ?_
        obtain ⟨c17, h17⟩ := h16
        refine r_lald ok191 103 rfl rfl rfl c17 ?_
        obtain ⟨c18, h18⟩ := h17
        refine r_last ok191 104 rfl rfl rfl c18 ?_
        refine r_iinc (v := x2 + 1) ok191 105 rfl rfl rfl rfl ?_
        refine r_goto ok191 106 rfl rfl ?_
        exact h18

set_option maxRecDepth 100000 in
set_option maxHeartbeats 4000000 in
theorem B191_194 {Θ : Th} {d : Nat} {σ : Mem} {Q : Po} {x2 : Int32} 
    (h : ((96 ≤ x2 → G Θ (d + 1) 191 220 [some (.ref 124), none, some (.int 0)] [] σ Q) ∧ (¬ 96 ≤ x2 → (vp_in x2 96 ∧ (vp_in x2 96 ∧ G Θ (d + 1) 191 194 [some (.ref 124), none, some (.int (x2 + 1))] [] (sI σ 140 (x2.toNatClampNeg) (σ.1 129 x2.toNatClampNeg)) Q))))) :
    G Θ (d + 1) 191 194 [some (.ref 124), none, some (.int x2)] [] σ Q := by
  refine r_iload_n ok191 112 rfl rfl rfl ?_
  refine r_bipush (v := 96) ok191 113 rfl rfl rfl ?_
  refine r_icmp_ge ok191 114 rfl rfl (fun c1 => ?_) (fun c1 => ?_)
  · have h1 := h.1 c1
    refine r_iconst (v := 0) ok191 125 rfl rfl rfl ?_
    refine r_istore_n ok191 126 rfl rfl ?_
    exact h1
  · have h1 := h.2 c1
    refine r_aload_n ok191 115 rfl rfl rfl ?_
    refine r_getF ok191 116 rfl rfl rfl rfl ?_
    refine r_iload_n ok191 117 rfl rfl rfl ?_
    refine r_aload_n ok191 118 rfl rfl rfl ?_
    refine r_getF ok191 119 rfl rfl rfl rfl ?_
    refine r_iload_n ok191 120 rfl rfl rfl ?_
    obtain ⟨c2, h2⟩ := h1
    refine r_iald ok191 121 rfl rfl rfl c2 ?_
    obtain ⟨c3, h3⟩ := h2
    refine r_iast ok191 122 rfl rfl rfl c3 ?_
    refine r_iinc (v := x2 + 1) ok191 123 rfl rfl rfl rfl ?_
    refine r_goto ok191 124 rfl rfl ?_
    exact h3

set_option maxRecDepth 100000 in
set_option maxHeartbeats 4000000 in
theorem B191_220 {Θ : Th} {d : Nat} {σ : Mem} {Q : Po} {x2 : Int32} 
    (h : ((16 ≤ x2 → G Θ (d + 1) 191 282 [some (.ref 124), none, some (.int 0)] [] σ Q) ∧ (¬ 16 ≤ x2 → (vp_in x2 16 ∧ (vp_in x2 16 ∧ (vp_in x2 16 ∧ (vp_in x2 16 ∧ (vp_in x2 16 ∧ (vp_in x2 16 ∧ (vp_in x2 16 ∧ (vp_in x2 16 ∧ G Θ (d + 1) 191 220 [some (.ref 124), none, some (.int (x2 + 1))] [] (sI (sI (sI (sI σ 141 (x2.toNatClampNeg) (σ.1 130 x2.toNatClampNeg)) 142 (x2.toNatClampNeg) ((sI σ 141 (x2.toNatClampNeg) (σ.1 130 x2.toNatClampNeg)).1 131 x2.toNatClampNeg)) 143 (x2.toNatClampNeg) ((sI (sI σ 141 (x2.toNatClampNeg) (σ.1 130 x2.toNatClampNeg)) 142 (x2.toNatClampNeg) ((sI σ 141 (x2.toNatClampNeg) (σ.1 130 x2.toNatClampNeg)).1 131 x2.toNatClampNeg)).1 132 x2.toNatClampNeg)) 144 (x2.toNatClampNeg) ((sI (sI (sI σ 141 (x2.toNatClampNeg) (σ.1 130 x2.toNatClampNeg)) 142 (x2.toNatClampNeg) ((sI σ 141 (x2.toNatClampNeg) (σ.1 130 x2.toNatClampNeg)).1 131 x2.toNatClampNeg)) 143 (x2.toNatClampNeg) ((sI (sI σ 141 (x2.toNatClampNeg) (σ.1 130 x2.toNatClampNeg)) 142 (x2.toNatClampNeg) ((sI σ 141 (x2.toNatClampNeg) (σ.1 130 x2.toNatClampNeg)).1 131 x2.toNatClampNeg)).1 132 x2.toNatClampNeg)).1 133 x2.toNatClampNeg)) Q))))))))))) :
    G Θ (d + 1) 191 220 [some (.ref 124), none, some (.int x2)] [] σ Q := by
  refine r_iload_n ok191 127 rfl rfl rfl ?_
  refine r_bipush (v := 16) ok191 128 rfl rfl rfl ?_
  refine r_icmp_ge ok191 129 rfl rfl (fun c1 => ?_) (fun c1 => ?_)
  · have h1 := h.1 c1
    refine r_iconst (v := 0) ok191 164 rfl rfl rfl ?_
    refine r_istore_n ok191 165 rfl rfl ?_
    exact h1
  · have h1 := h.2 c1
    refine r_aload_n ok191 130 rfl rfl rfl ?_
    refine r_getF ok191 131 rfl rfl rfl rfl ?_
    refine r_iload_n ok191 132 rfl rfl rfl ?_
    refine r_aload_n ok191 133 rfl rfl rfl ?_
    refine r_getF ok191 134 rfl rfl rfl rfl ?_
    refine r_iload_n ok191 135 rfl rfl rfl ?_
    obtain ⟨c2, h2⟩ := h1
    refine r_iald ok191 136 rfl rfl rfl c2 ?_
    obtain ⟨c3, h3⟩ := h2
    refine r_iast ok191 137 rfl rfl rfl c3 ?_
    refine r_aload_n ok191 138 rfl rfl rfl ?_
    refine r_getF ok191 139 rfl rfl rfl rfl ?_
    refine r_iload_n ok191 140 rfl rfl rfl ?_
    refine r_aload_n ok191 141 rfl rfl rfl ?_
    refine r_getF ok191 142 rfl rfl rfl rfl ?_
    refine r_iload_n ok191 143 rfl rfl rfl ?_
    obtain ⟨c4, h4⟩ := h3
    refine r_iald ok191 144 rfl rfl rfl c4 ?_
    obtain ⟨c5, h5⟩ := h4
    refine r_iast ok191 145 rfl rfl rfl c5 ?_
    refine r_aload_n ok191 146 rfl rfl rfl ?_
    refine r_getF ok191 147 rfl rfl rfl rfl ?_
    refine r_iload_n ok191 148 rfl rfl rfl ?_
    refine r_aload_n ok191 149 rfl rfl rfl ?_
    refine r_getF ok191 150 rfl rfl rfl rfl ?_
    refine r_iload_n ok191 151 rfl rfl rfl ?_
    obtain ⟨c6, h6⟩ := h5
    refine r_iald ok191 152 rfl rfl rfl c6 ?_
    obtain ⟨c7, h7⟩ := h6
    refine r_iast ok191 153 rfl rfl rfl c7 ?_
    refine r_aload_n ok191 154 rfl rfl rfl ?_
    refine r_getF ok191 155 rfl rfl rfl rfl ?_
    refine r_iload_n ok191 156 rfl rfl rfl ?_
    refine r_aload_n ok191 157 rfl rfl rfl ?_
    refine r_getF ok191 158 rfl rfl rfl rfl ?_
    refine r_iload_n ok191 159 rfl rfl rfl ?_
    obtain ⟨c8, h8⟩ := h7
    refine r_iald ok191 160 rfl rfl rfl c8 ?_
    obtain ⟨c9, h9⟩ := h8
    refine r_iast ok191 161 rfl rfl rfl c9 ?_
    refine r_iinc (v := x2 + 1) ok191 162 rfl rfl rfl rfl ?_
    refine r_goto ok191 163 rfl rfl ?_
    exact h9

set_option maxRecDepth 100000 in
set_option maxHeartbeats 4000000 in
theorem B191_282 {Θ : Th} {d : Nat} {σ : Mem} {Q : Po} {x2 : Int32} 
    (h : ((20 ≤ x2 → G Θ (d + 1) 191 362 [some (.ref 124), none, some (.int 0)] [] (sI (sI (sI (sI (sI (sI σ 124 37 (σ.1 124 24)) 124 38 ((sI σ 124 37 (σ.1 124 24)).1 124 25)) 124 39 ((sI (sI σ 124 37 (σ.1 124 24)) 124 38 ((sI σ 124 37 (σ.1 124 24)).1 124 25)).1 124 26)) 124 40 ((sI (sI (sI σ 124 37 (σ.1 124 24)) 124 38 ((sI σ 124 37 (σ.1 124 24)).1 124 25)) 124 39 ((sI (sI σ 124 37 (σ.1 124 24)) 124 38 ((sI σ 124 37 (σ.1 124 24)).1 124 25)).1 124 26)).1 124 27)) 124 78 0) 124 79 0) Q) ∧ (¬ 20 ≤ x2 → (vp_in x2 20 ∧ (vp_in x2 20 ∧ (vp_in x2 20 ∧ (vp_in x2 20 ∧ G Θ (d + 1) 191 282 [some (.ref 124), none, some (.int (x2 + 1))] [] (sI (sI σ 145 (x2.toNatClampNeg) (σ.1 134 x2.toNatClampNeg)) 146 (x2.toNatClampNeg) ((sI σ 145 (x2.toNatClampNeg) (σ.1 134 x2.toNatClampNeg)).1 135 x2.toNatClampNeg)) Q))))))) :
    G Θ (d + 1) 191 282 [some (.ref 124), none, some (.int x2)] [] σ Q := by
  refine r_iload_n ok191 166 rfl rfl rfl ?_
  refine r_bipush (v := 20) ok191 167 rfl rfl rfl ?_
  refine r_icmp_ge ok191 168 rfl rfl (fun c1 => ?_) (fun c1 => ?_)
  · have h1 := h.1 c1
    refine r_aload_n ok191 187 rfl rfl rfl ?_
    refine r_aload_n ok191 188 rfl rfl rfl ?_
    refine r_getI ok191 189 rfl rfl rfl rfl ?_
    refine r_putI ok191 190 rfl rfl rfl rfl ?_
    refine r_aload_n ok191 191 rfl rfl rfl ?_
    refine r_aload_n ok191 192 rfl rfl rfl ?_
    refine r_getI ok191 193 rfl rfl rfl rfl ?_
    refine r_putI ok191 194 rfl rfl rfl rfl ?_
    refine r_aload_n ok191 195 rfl rfl rfl ?_
    refine r_aload_n ok191 196 rfl rfl rfl ?_
    refine r_getI ok191 197 rfl rfl rfl rfl ?_
    refine r_putI ok191 198 rfl rfl rfl rfl ?_
    refine r_aload_n ok191 199 rfl rfl rfl ?_
    refine r_aload_n ok191 200 rfl rfl rfl ?_
    refine r_getI ok191 201 rfl rfl rfl rfl ?_
    refine r_putI ok191 202 rfl rfl rfl rfl ?_
    refine r_aload_n ok191 203 rfl rfl rfl ?_
    refine r_iconst (v := 0) ok191 204 rfl rfl rfl ?_
    refine r_putI ok191 205 rfl rfl rfl rfl ?_
    refine r_aload_n ok191 206 rfl rfl rfl ?_
    refine r_iconst (v := 0) ok191 207 rfl rfl rfl ?_
    refine r_putI ok191 208 rfl rfl rfl rfl ?_
    refine r_iconst (v := 0) ok191 209 rfl rfl rfl ?_
    refine r_istore_n ok191 210 rfl rfl ?_
    exact h1
  · have h1 := h.2 c1
    refine r_aload_n ok191 169 rfl rfl rfl ?_
    refine r_getF ok191 170 rfl rfl rfl rfl ?_
    refine r_iload_n ok191 171 rfl rfl rfl ?_
    refine r_aload_n ok191 172 rfl rfl rfl ?_
    refine r_getF ok191 173 rfl rfl rfl rfl ?_
    refine r_iload_n ok191 174 rfl rfl rfl ?_
    obtain ⟨c2, h2⟩ := h1
    refine r_iald ok191 175 rfl rfl rfl c2 ?_
    obtain ⟨c3, h3⟩ := h2
    refine r_iast ok191 176 rfl rfl rfl c3 ?_
    refine r_aload_n ok191 177 rfl rfl rfl ?_
    refine r_getF ok191 178 rfl rfl rfl rfl ?_
    refine r_iload_n ok191 179 rfl rfl rfl ?_
    refine r_aload_n ok191 180 rfl rfl rfl ?_
    refine r_getF ok191 181 rfl rfl rfl rfl ?_
    refine r_iload_n ok191 182 rfl rfl rfl ?_
    obtain ⟨c4, h4⟩ := h3
    refine r_iald ok191 183 rfl rfl rfl c4 ?_
    obtain ⟨c5, h5⟩ := h4
    refine r_iast ok191 184 rfl rfl rfl c5 ?_
    refine r_iinc (v := x2 + 1) ok191 185 rfl rfl rfl rfl ?_
    refine r_goto ok191 186 rfl rfl ?_
    exact h5

set_option maxRecDepth 100000 in
set_option maxHeartbeats 4000000 in
theorem B191_362 {Θ : Th} {d : Nat} {σ : Mem} {Q : Po} {x2 : Int32} 
    (h : ((3 ≤ x2 → Q (some (.int (σ.1 124 40))) σ) ∧ (¬ 3 ≤ x2 → (vp_in x2 3 ∧ G Θ (d + 1) 191 362 [some (.ref 124), none, some (.int (x2 + 1))] [] (sI σ 177 (x2.toNatClampNeg) (vp_nar .boolean 0)) Q)))) :
    G Θ (d + 1) 191 362 [some (.ref 124), none, some (.int x2)] [] σ Q := by
  refine r_iload_n ok191 211 rfl rfl rfl ?_
  refine r_iconst (v := 3) ok191 212 rfl rfl rfl ?_
  refine r_icmp_ge ok191 213 rfl rfl (fun c1 => ?_) (fun c1 => ?_)
  · have h1 := h.1 c1
    refine r_aload_n ok191 221 rfl rfl rfl ?_
    refine r_getI ok191 222 rfl rfl rfl rfl ?_
    exact r_iret ok191 223 rfl rfl rfl h1
  · have h1 := h.2 c1
    refine r_aload_n ok191 214 rfl rfl rfl ?_
    refine r_getF ok191 215 rfl rfl rfl rfl ?_
    refine r_iload_n ok191 216 rfl rfl rfl ?_
    refine r_iconst (v := 0) ok191 217 rfl rfl rfl ?_
    obtain ⟨c2, h2⟩ := h1
    refine r_zast ok191 218 rfl rfl rfl c2 ?_
    refine r_iinc (v := x2 + 1) ok191 219 rfl rfl rfl rfl ?_
    refine r_goto ok191 220 rfl rfl ?_
    exact h2

theorem K191 {Θ : Th} {d : Nat} {σ : Mem} {Q : Po} (h : G Θ (d + 1) 191 0 [some (.ref 124), none, none] [] σ Q) : Cm Θ (d + 1) 191 [.ref 124] σ Q :=
  C_of_G okM191 (Nat.le_of_ble_eq_true rfl) rfl h

-- 192: LikeYearsModel.fault(I)I
set_option maxRecDepth 100000 in
set_option maxHeartbeats 4000000 in
theorem B192_0 {Θ : Th} {d : Nat} {σ : Mem} {Q : Po} {x1 : Int32} 
    (h : ((¬ x1 = 0 → ((¬ x1 = 1 → Q (some (.int (-1))) σ) ∧ (x1 = 1 → Q (some (.int (σ.1 124 3))) σ))) ∧ (x1 = 0 → Q (some (.int (σ.1 124 2))) σ))) :
    G Θ d 192 0 [some (.ref 124), some (.int x1)] [] σ Q := by
  refine r_iload_n ok192 0 rfl rfl rfl ?_
  refine r_if_ne ok192 1 rfl rfl (fun c1 => ?_) (fun c1 => ?_)
  · have h1 := h.1 c1
    refine r_iload_n ok192 5 rfl rfl rfl ?_
    refine r_iconst (v := 1) ok192 6 rfl rfl rfl ?_
    refine r_icmp_ne ok192 7 rfl rfl (fun c2 => ?_) (fun c2 => ?_)
    · have h2 := h1.1 c2
      refine r_iconst (v := (-1)) ok192 11 rfl rfl rfl ?_
      exact r_iret ok192 12 rfl rfl rfl h2
    · have h2 := h1.2 c2
      refine r_aload_n ok192 8 rfl rfl rfl ?_
      refine r_getI ok192 9 rfl rfl rfl rfl ?_
      refine r_goto ok192 10 rfl rfl ?_
      exact r_iret ok192 12 rfl rfl rfl h2
  · have h1 := h.2 c1
    refine r_aload_n ok192 2 rfl rfl rfl ?_
    refine r_getI ok192 3 rfl rfl rfl rfl ?_
    refine r_goto ok192 4 rfl rfl ?_
    exact r_iret ok192 12 rfl rfl rfl h1

theorem K192 {Θ : Th} {d : Nat} {σ : Mem} {Q : Po} {x1 : Int32} (h : G Θ d 192 0 [some (.ref 124), some (.int x1)] [] σ Q) : Cm Θ d 192 [.ref 124, .int x1] σ Q :=
  C_of_G okM192 (Nat.le_of_ble_eq_true rfl) rfl h

-- 193: LikeYearsModel.close([II)V
set_option maxRecDepth 100000 in
set_option maxHeartbeats 4000000 in
theorem B193_0 {Θ : Th} {d : Nat} {σ : Mem} {Q : Po} {r0 n0 : Nat} {x1 : Int32} (hp0 : shq r0 = (20, n0))
    (h : G Θ d 193 2 [some (.ref r0), some (.int x1), some (.int 0), none] [] σ Q) :
    G Θ d 193 0 [some (.ref r0), some (.int x1), none, none] [] σ Q := by
  refine r_iconst (v := 0) ok193 0 rfl rfl rfl ?_
  refine r_istore_n ok193 1 rfl rfl ?_
  exact h

set_option maxRecDepth 100000 in
set_option maxHeartbeats 4000000 in
theorem B193_2 {Θ : Th} {d : Nat} {σ : Mem} {Q : Po} {r0 n0 : Nat} {x1 : Int32} {x2 : Int32} (hp0 : shq r0 = (20, n0))
    (h : ((x1 ≤ x2 → Q none σ) ∧ (¬ x1 ≤ x2 → G Θ d 193 9 [some (.ref r0), some (.int x1), some (.int x2), some (.int 0)] [] σ Q))) :
    G Θ d 193 2 [some (.ref r0), some (.int x1), some (.int x2), none] [] σ Q := by
  refine r_iload_n ok193 2 rfl rfl rfl ?_
  refine r_iload_n ok193 3 rfl rfl rfl ?_
  refine r_icmp_ge ok193 4 rfl rfl (fun c1 => ?_) (fun c1 => ?_)
  · have h1 := h.1 c1
    exact r_ret ok193 32 rfl rfl rfl h1
  · have h1 := h.2 c1
    refine r_iconst (v := 0) ok193 5 rfl rfl rfl ?_
    refine r_istore_n ok193 6 rfl rfl ?_
    exact h1

set_option maxRecDepth 100000 in
set_option maxHeartbeats 4000000 in
theorem B193_9 {Θ : Th} {d : Nat} {σ : Mem} {Q : Po} {r0 n0 : Nat} {x1 : Int32} {x2 : Int32} {x3 : Int32} (hp0 : shq r0 = (20, n0))
    (h : ((x1 ≤ x3 → G Θ d 193 2 [some (.ref r0), some (.int x1), some (.int (x2 + 1)), none] [] σ Q) ∧ (¬ x1 ≤ x3 → (vp_in x3 n0 ∧ ((¬ (((σ.1 r0 x3.toNatClampNeg) >>> (x2 &&& 31)) &&& 1) = 1 → G Θ d 193 9 [some (.ref r0), some (.int x1), some (.int x2), some (.int (x3 + 1))] [] σ Q) ∧ ((((σ.1 r0 x3.toNatClampNeg) >>> (x2 &&& 31)) &&& 1) = 1 → (vp_in x3 n0 ∧ (vp_in x2 n0 ∧ (vp_in x3 n0 ∧ G Θ d 193 9 [some (.ref r0), some (.int x1), some (.int x2), some (.int (x3 + 1))] [] (sI σ r0 (x3.toNatClampNeg) ((σ.1 r0 x3.toNatClampNeg) ||| (σ.1 r0 x2.toNatClampNeg))) Q))))))))) :
    G Θ d 193 9 [some (.ref r0), some (.int x1), some (.int x2), some (.int x3)] [] σ Q := by
  refine r_iload_n ok193 7 rfl rfl rfl ?_
  refine r_iload_n ok193 8 rfl rfl rfl ?_
  refine r_icmp_ge ok193 9 rfl rfl (fun c1 => ?_) (fun c1 => ?_)
  · have h1 := h.1 c1
    refine r_iinc (v := x2 + 1) ok193 30 rfl rfl rfl rfl ?_
    refine r_goto ok193 31 rfl rfl ?_
    exact G.weak (L' := [some (.ref r0), some (.int x1), some (.int (x2 + 1)), none]) ⟨rfl, ⟨rfl, ⟨rfl, trivial⟩⟩⟩ h1
  · have h1 := h.2 c1
    refine r_aload_n ok193 10 rfl rfl rfl ?_
    refine r_iload_n ok193 11 rfl rfl rfl ?_
    obtain ⟨c2, h2⟩ := h1
    refine r_iald ok193 12 rfl rfl hp0 c2 ?_
    refine r_iload_n ok193 13 rfl rfl rfl ?_
    refine r_ishr ok193 14 rfl rfl ?_
    refine r_iconst (v := 1) ok193 15 rfl rfl rfl ?_
    refine r_iand ok193 16 rfl rfl ?_
    refine r_iconst (v := 1) ok193 17 rfl rfl rfl ?_
    refine r_icmp_ne ok193 18 rfl rfl (fun c3 => ?_) (fun c3 => ?_)
    · have h3 := h2.1 c3
      refine r_iinc (v := x3 + 1) ok193 28 rfl rfl rfl rfl ?_
      refine r_goto ok193 29 rfl rfl ?_
      exact h3
    · have h3 := h2.2 c3
      refine r_aload_n ok193 19 rfl rfl rfl ?_
      refine r_iload_n ok193 20 rfl rfl rfl ?_
      refine r_dup2a ok193 21 rfl rfl rfl rfl ?_
      obtain ⟨c4, h4⟩ := h3
      refine r_iald ok193 22 rfl rfl hp0 c4 ?_
      refine r_aload_n ok193 23 rfl rfl rfl ?_
      refine r_iload_n ok193 24 rfl rfl rfl ?_
      obtain ⟨c5, h5⟩ := h4
      refine r_iald ok193 25 rfl rfl hp0 c5 ?_
      refine r_ior ok193 26 rfl rfl ?_
      obtain ⟨c6, h6⟩ := h5
      refine r_iast ok193 27 rfl rfl hp0 c6 ?_
      refine r_iinc (v := x3 + 1) ok193 28 rfl rfl rfl rfl ?_
      refine r_goto ok193 29 rfl rfl ?_
      exact h6

theorem K193 {Θ : Th} {d : Nat} {σ : Mem} {Q : Po} {r0 n0 : Nat} {x1 : Int32} (h : G Θ d 193 0 [some (.ref r0), some (.int x1), none, none] [] σ Q) : Cm Θ d 193 [.ref r0, .int x1] σ Q :=
  C_of_G okM193 (Nat.le_of_ble_eq_true rfl) rfl h

-- 194: LikeYearsModel.firstRound()I
set_option maxRecDepth 100000 in
set_option maxHeartbeats 4000000 in
theorem B194_0 {Θ : Th} {d : Nat} {σ : Mem} {Q : Po} 
    (h : G Θ (d + 1) 194 2 [some (.ref 124), some (.int 0), none, none, none] [] σ Q) :
    G Θ (d + 1) 194 0 [some (.ref 124), none, none, none, none] [] σ Q := by
  refine r_iconst (v := 0) ok194 0 rfl rfl rfl ?_
  refine r_istore_n ok194 1 rfl rfl ?_
  exact h

set_option maxRecDepth 100000 in
set_option maxHeartbeats 4000000 in
theorem B194_2 {Θ : Th} {d : Nat} {σ : Mem} {Q : Po} {x1 : Int32} 
    (h : (((σ.1 124 25) ≤ x1 → G Θ (d + 1) 194 128 [some (.ref 124), some (.int 0), none, none, none] [] σ Q) ∧ (¬ (σ.1 124 25) ≤ x1 → (vp_in x1 16 ∧ G Θ (d + 1) 194 19 [some (.ref 124), some (.int x1), some (.int 0), none, none] [] (sI σ 149 (x1.toNatClampNeg) 0) Q)))) :
    G Θ (d + 1) 194 2 [some (.ref 124), some (.int x1), none, none, none] [] σ Q := by
  refine r_iload_n ok194 2 rfl rfl rfl ?_
  refine r_aload_n ok194 3 rfl rfl rfl ?_
  refine r_getI ok194 4 rfl rfl rfl rfl ?_
  refine r_icmp_ge ok194 5 rfl rfl (fun c1 => ?_) (fun c1 => ?_)
  · have h1 := h.1 c1
    refine r_iconst (v := 0) ok194 73 rfl rfl rfl ?_
    refine r_istore_n ok194 74 rfl rfl ?_
    exact h1
  · have h1 := h.2 c1
    refine r_aload_n ok194 6 rfl rfl rfl ?_
    refine r_getF ok194 7 rfl rfl rfl rfl ?_
    refine r_iload_n ok194 8 rfl rfl rfl ?_
    refine r_iconst (v := 0) ok194 9 rfl rfl rfl ?_
    obtain ⟨c2, h2⟩ := h1
    refine r_iast ok194 10 rfl rfl rfl c2 ?_
    refine r_iconst (v := 0) ok194 11 rfl rfl rfl ?_
    refine r_istore_n ok194 12 rfl rfl ?_
    exact h2

set_option maxRecDepth 100000 in
set_option maxHeartbeats 4000000 in
theorem B194_128 {Θ : Th} {d : Nat} {σ : Mem} {Q : Po} {x1 : Int32} 
    (h : (((σ.1 124 26) ≤ x1 → Q (some (.int (-1))) σ) ∧ (¬ (σ.1 124 26) ≤ x1 → (vp_in x1 20 ∧ (vp_in (σ.1 135 x1.toNatClampNeg) 16 ∧ (vp_in x1 20 ∧ ((¬ (((σ.1 149 (σ.1 135 x1.toNatClampNeg).toNatClampNeg) >>> ((σ.1 134 x1.toNatClampNeg) &&& 31)) &&& 1) = 1 → (vp_in x1 20 ∧ (vp_in (σ.1 134 x1.toNatClampNeg) 16 ∧ (vp_in x1 20 ∧ (vp_in (σ.1 134 x1.toNatClampNeg) 16 ∧ Cv Θ d 193 [.ref 149, .int ((sI σ 149 ((σ.1 134 x1.toNatClampNeg).toNatClampNeg) ((σ.1 149 (σ.1 134 x1.toNatClampNeg).toNatClampNeg) ||| ((1 : Int32) <<< ((σ.1 135 x1.toNatClampNeg) &&& 31)))).1 124 25)] (sI σ 149 ((σ.1 134 x1.toNatClampNeg).toNatClampNeg) ((σ.1 149 (σ.1 134 x1.toNatClampNeg).toNatClampNeg) ||| ((1 : Int32) <<< ((σ.1 135 x1.toNatClampNeg) &&& 31)))) (fun σ10 => G Θ (d + 1) 194 128 [some (.ref 124), some (.int (x1 + 1)), none, none, none] [] σ10 Q)))))) ∧ ((((σ.1 149 (σ.1 135 x1.toNatClampNeg).toNatClampNeg) >>> ((σ.1 134 x1.toNatClampNeg) &&& 31)) &&& 1) = 1 → Q (some (.int x1)) σ)))))))) :
    G Θ (d + 1) 194 128 [some (.ref 124), some (.int x1), none, none, none] [] σ Q := by
  refine r_iload_n ok194 75 rfl rfl rfl ?_
  refine r_aload_n ok194 76 rfl rfl rfl ?_
  refine r_getI ok194 77 rfl rfl rfl rfl ?_
  refine r_icmp_ge ok194 78 rfl rfl (fun c1 => ?_) (fun c1 => ?_)
  · have h1 := h.1 c1
    refine r_iconst (v := (-1)) ok194 120 rfl rfl rfl ?_
    exact r_iret ok194 121 rfl rfl rfl h1
  · have h1 := h.2 c1
    refine r_aload_n ok194 79 rfl rfl rfl ?_
    refine r_getF ok194 80 rfl rfl rfl rfl ?_
    refine r_aload_n ok194 81 rfl rfl rfl ?_
    refine r_getF ok194 82 rfl rfl rfl rfl ?_
    refine r_iload_n ok194 83 rfl rfl rfl ?_
    obtain ⟨c2, h2⟩ := h1
    refine r_iald ok194 84 rfl rfl rfl c2 ?_
    obtain ⟨c3, h3⟩ := h2
    refine r_iald ok194 85 rfl rfl rfl c3 ?_
    refine r_aload_n ok194 86 rfl rfl rfl ?_
    refine r_getF ok194 87 rfl rfl rfl rfl ?_
    refine r_iload_n ok194 88 rfl rfl rfl ?_
    obtain ⟨c4, h4⟩ := h3
    refine r_iald ok194 89 rfl rfl rfl c4 ?_
    refine r_ishr ok194 90 rfl rfl ?_
    refine r_iconst (v := 1) ok194 91 rfl rfl rfl ?_
    refine r_iand ok194 92 rfl rfl ?_
    refine r_iconst (v := 1) ok194 93 rfl rfl rfl ?_
    refine r_icmp_ne ok194 94 rfl rfl (fun c5 => ?_) (fun c5 => ?_)
    · have h5 := h4.1 c5
      refine r_aload_n ok194 97 rfl rfl rfl ?_
      refine r_getF ok194 98 rfl rfl rfl rfl ?_
      refine r_aload_n ok194 99 rfl rfl rfl ?_
      refine r_getF ok194 100 rfl rfl rfl rfl ?_
      refine r_iload_n ok194 101 rfl rfl rfl ?_
      obtain ⟨c6, h6⟩ := h5
      refine r_iald ok194 102 rfl rfl rfl c6 ?_
      refine r_dup2a ok194 103 rfl rfl rfl rfl ?_
      obtain ⟨c7, h7⟩ := h6
      refine r_iald ok194 104 rfl rfl rfl c7 ?_
      refine r_iconst (v := 1) ok194 105 rfl rfl rfl ?_
      refine r_aload_n ok194 106 rfl rfl rfl ?_
      refine r_getF ok194 107 rfl rfl rfl rfl ?_
      refine r_iload_n ok194 108 rfl rfl rfl ?_
      obtain ⟨c8, h8⟩ := h7
      refine r_iald ok194 109 rfl rfl rfl c8 ?_
      refine r_ishl ok194 110 rfl rfl ?_
      refine r_ior ok194 111 rfl rfl ?_
      obtain ⟨c9, h9⟩ := h8
      refine r_iast ok194 112 rfl rfl rfl c9 ?_
      refine r_aload_n ok194 113 rfl rfl rfl ?_
      refine r_getF ok194 114 rfl rfl rfl rfl ?_
      refine r_aload_n ok194 115 rfl rfl rfl ?_
      refine r_getI ok194 116 rfl rfl rfl rfl ?_
      refine r_invSv (as := [.ref 149, .int ((sI σ 149 ((σ.1 134 x1.toNatClampNeg).toNatClampNeg) ((σ.1 149 (σ.1 134 x1.toNatClampNeg).toNatClampNeg) ||| ((1 : Int32) <<< ((σ.1 135 x1.toNatClampNeg) &&& 31)))).1 124 25)]) (S := []) ok194 117 rfl rfl mf193 rfl (Nat.le_of_ble_eq_true rfl) rfl h9 (fun σ10 h10 => ?_)
      refine r_iinc (v := x1 + 1) ok194 118 rfl rfl rfl rfl ?_
      refine r_goto ok194 119 rfl rfl ?_
      exact h10
    · have h5 := h4.2 c5
      refine r_iload_n ok194 95 rfl rfl rfl ?_
      exact r_iret ok194 96 rfl rfl rfl h5

set_option maxRecDepth 100000 in
set_option maxHeartbeats 4000000 in
theorem B194_19 {Θ : Th} {d : Nat} {σ : Mem} {Q : Po} {x1 : Int32} {x2 : Int32} 
    (h : (((σ.1 124 25) ≤ x2 → G Θ (d + 1) 194 2 [some (.ref 124), some (.int (x1 + 1)), none, none, none] [] σ Q) ∧ (¬ (σ.1 124 25) ≤ x2 → G Θ (d + 1) 194 32 [some (.ref 124), some (.int x1), some (.int x2), some (.int 1), some (.int 0)] [] σ Q))) :
    G Θ (d + 1) 194 19 [some (.ref 124), some (.int x1), some (.int x2), none, none] [] σ Q := by
  refine r_iload_n ok194 13 rfl rfl rfl ?_
  refine r_aload_n ok194 14 rfl rfl rfl ?_
  refine r_getI ok194 15 rfl rfl rfl rfl ?_
  refine r_icmp_ge ok194 16 rfl rfl (fun c1 => ?_) (fun c1 => ?_)
  · have h1 := h.1 c1
    refine r_iinc (v := x1 + 1) ok194 71 rfl rfl rfl rfl ?_
    refine r_goto ok194 72 rfl rfl ?_
    exact G.weak (L' := [some (.ref 124), some (.int (x1 + 1)), none, none, none]) ⟨rfl, ⟨rfl, trivial⟩⟩ h1
  · have h1 := h.2 c1
    refine r_iconst (v := 1) ok194 17 rfl rfl rfl ?_
    refine r_istore_n ok194 18 rfl rfl ?_
    refine r_iconst (v := 0) ok194 19 rfl rfl rfl ?_
    refine r_istore ok194 20 rfl rfl ?_
    exact h1

set_option maxRecDepth 100000 in
set_option maxHeartbeats 4000000 in
theorem B194_32 {Θ : Th} {d : Nat} {σ : Mem} {Q : Po} {x1 : Int32} {x2 : Int32} {x3 : Int32} {x4 : Int32} 
    (h : (((σ.1 124 24) ≤ x4 → (vp_in x1 16 ∧ ((x3 = 0 → (vp_in x1 16 ∧ G Θ (d + 1) 194 19 [some (.ref 124), some (.int x1), some (.int (x2 + 1)), none, none] [] (sI σ 149 (x1.toNatClampNeg) ((σ.1 149 x1.toNatClampNeg) ||| 0)) Q)) ∧ (¬ x3 = 0 → (vp_in x1 16 ∧ G Θ (d + 1) 194 19 [some (.ref 124), some (.int x1), some (.int (x2 + 1)), none, none] [] (sI σ 149 (x1.toNatClampNeg) ((σ.1 149 x1.toNatClampNeg) ||| ((1 : Int32) <<< (x2 &&& 31)))) Q))))) ∧ (¬ (σ.1 124 24) ≤ x4 → ((x3 = 0 → G Θ (d + 1) 194 32 [some (.ref 124), some (.int x1), some (.int x2), some (.int 0), some (.int (x4 + 1))] [] σ Q) ∧ (¬ x3 = 0 → (vp_in x4 6 ∧ ((¬ (σ.1 137 x4.toNatClampNeg) = 0 → G Θ (d + 1) 194 32 [some (.ref 124), some (.int x1), some (.int x2), some (.int 1), some (.int (x4 + 1))] [] σ Q) ∧ ((σ.1 137 x4.toNatClampNeg) = 0 → (vp_in ((6 * x1) + x4) 96 ∧ (vp_in ((6 * x2) + x4) 96 ∧ (((σ.1 129 ((6 * x1) + x4).toNatClampNeg) < (σ.1 129 ((6 * x2) + x4).toNatClampNeg) → G Θ (d + 1) 194 32 [some (.ref 124), some (.int x1), some (.int x2), some (.int 0), some (.int (x4 + 1))] [] σ Q) ∧ (¬ (σ.1 129 ((6 * x1) + x4).toNatClampNeg) < (σ.1 129 ((6 * x2) + x4).toNatClampNeg) → G Θ (d + 1) 194 32 [some (.ref 124), some (.int x1), some (.int x2), some (.int 1), some (.int (x4 + 1))] [] σ Q)))))))))))) :
    G Θ (d + 1) 194 32 [some (.ref 124), some (.int x1), some (.int x2), some (.int x3), some (.int x4)] [] σ Q := by
  refine r_iload ok194 21 rfl rfl rfl ?_
  refine r_aload_n ok194 22 rfl rfl rfl ?_
  refine r_getI ok194 23 rfl rfl rfl rfl ?_
  refine r_icmp_ge ok194 24 rfl rfl (fun c1 => ?_) (fun c1 => ?_)
  · have h1 := h.1 c1
    refine r_aload_n ok194 55 rfl rfl rfl ?_
    refine r_getF ok194 56 rfl rfl rfl rfl ?_
    refine r_iload_n ok194 57 rfl rfl rfl ?_
    refine r_dup2a ok194 58 rfl rfl rfl rfl ?_
    obtain ⟨c2, h2⟩ := h1
    refine r_iald ok194 59 rfl rfl rfl c2 ?_
    refine r_iload_n ok194 60 rfl rfl rfl ?_
    refine r_if_eq ok194 61 rfl rfl (fun c3 => ?_) (fun c3 => ?_)
    · have h3 := h2.1 c3
      refine r_iconst (v := 0) ok194 66 rfl rfl rfl ?_
      refine r_ior ok194 67 rfl rfl ?_
      obtain ⟨c4, h4⟩ := h3
      refine r_iast ok194 68 rfl rfl rfl c4 ?_
      refine r_iinc (v := x2 + 1) ok194 69 rfl rfl rfl rfl ?_
      refine r_goto ok194 70 rfl rfl ?_
      exact G.weak (L' := [some (.ref 124), some (.int x1), some (.int (x2 + 1)), none, none]) ⟨rfl, ⟨rfl, ⟨rfl, trivial⟩⟩⟩ h4
    · have h3 := h2.2 c3
      refine r_iconst (v := 1) ok194 62 rfl rfl rfl ?_
      refine r_iload_n ok194 63 rfl rfl rfl ?_
      refine r_ishl ok194 64 rfl rfl ?_
      refine r_goto ok194 65 rfl rfl ?_
      refine r_ior ok194 67 rfl rfl ?_
      obtain ⟨c5, h5⟩ := h3
      refine r_iast ok194 68 rfl rfl rfl c5 ?_
      refine r_iinc (v := x2 + 1) ok194 69 rfl rfl rfl rfl ?_
      refine r_goto ok194 70 rfl rfl ?_
      exact G.weak (L' := [some (.ref 124), some (.int x1), some (.int (x2 + 1)), none, none]) ⟨rfl, ⟨rfl, ⟨rfl, trivial⟩⟩⟩ h5
  · have h1 := h.2 c1
    refine r_iload_n ok194 25 rfl rfl rfl ?_
    refine r_if_eq ok194 26 rfl rfl (fun c6 => ?_) (fun c6 => ?_)
    · have h6 := h1.1 c6
      refine r_iconst (v := 0) ok194 51 rfl rfl rfl ?_
      refine r_istore_n ok194 52 rfl rfl ?_
      refine r_iinc (v := x4 + 1) ok194 53 rfl rfl rfl rfl ?_
      refine r_goto ok194 54 rfl rfl ?_
      exact h6
    · have h6 := h1.2 c6
      refine r_aload_n ok194 27 rfl rfl rfl ?_
      refine r_getF ok194 28 rfl rfl rfl rfl ?_
      refine r_iload ok194 29 rfl rfl rfl ?_
      obtain ⟨c7, h7⟩ := h6
      refine r_zald ok194 30 rfl rfl rfl c7 ?_
      refine r_if_ne ok194 31 rfl rfl (fun c8 => ?_) (fun c8 => ?_)
      · have h8 := h7.1 c8
        refine r_iconst (v := 1) ok194 49 rfl rfl rfl ?_
        refine r_goto ok194 50 rfl rfl ?_
        refine r_istore_n ok194 52 rfl rfl ?_
        refine r_iinc (v := x4 + 1) ok194 53 rfl rfl rfl rfl ?_
        refine r_goto ok194 54 rfl rfl ?_
        exact h8
      · have h8 := h7.2 c8
        refine r_aload_n ok194 32 rfl rfl rfl ?_
        refine r_getF ok194 33 rfl rfl rfl rfl ?_
        refine r_bipush (v := 6) ok194 34 rfl rfl rfl ?_
        refine r_iload_n ok194 35 rfl rfl rfl ?_
        refine r_imul ok194 36 rfl rfl ?_
        refine r_iload ok194 37 rfl rfl rfl ?_
        refine r_iadd ok194 38 rfl rfl ?_
        obtain ⟨c9, h9⟩ := h8
        refine r_iald ok194 39 rfl rfl rfl c9 ?_
        refine r_aload_n ok194 40 rfl rfl rfl ?_
        refine r_getF ok194 41 rfl rfl rfl rfl ?_
        refine r_bipush (v := 6) ok194 42 rfl rfl rfl ?_
        refine r_iload_n ok194 43 rfl rfl rfl ?_
        refine r_imul ok194 44 rfl rfl ?_
        refine r_iload ok194 45 rfl rfl rfl ?_
        refine r_iadd ok194 46 rfl rfl ?_
        obtain ⟨c10, h10⟩ := h9
        refine r_iald ok194 47 rfl rfl rfl c10 ?_
        refine r_icmp_lt ok194 48 rfl rfl (fun c11 => ?_) (fun c11 => ?_)
        · have h11 := h10.1 c11
          refine r_iconst (v := 0) ok194 51 rfl rfl rfl ?_
          refine r_istore_n ok194 52 rfl rfl ?_
          refine r_iinc (v := x4 + 1) ok194 53 rfl rfl rfl rfl ?_
          refine r_goto ok194 54 rfl rfl ?_
          exact h11
        · have h11 := h10.2 c11
          refine r_iconst (v := 1) ok194 49 rfl rfl rfl ?_
          refine r_goto ok194 50 rfl rfl ?_
          refine r_istore_n ok194 52 rfl rfl ?_
          refine r_iinc (v := x4 + 1) ok194 53 rfl rfl rfl rfl ?_
          refine r_goto ok194 54 rfl rfl ?_
          exact h11

theorem K194 {Θ : Th} {d : Nat} {σ : Mem} {Q : Po} (h : G Θ (d + 1) 194 0 [some (.ref 124), none, none, none, none] [] σ Q) : Cm Θ (d + 1) 194 [.ref 124] σ Q :=
  C_of_G okM194 (Nat.le_of_ble_eq_true rfl) rfl h
