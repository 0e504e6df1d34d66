-- 33: LikeYears$Choices.cover(LLikeYears$Book;LLikeYears$Order;)V
set_option maxRecDepth 100000 in
set_option maxHeartbeats 4000000 in
theorem B33_0 {Θ : Th} {d : Nat} {σ : Mem} {Q : Po} {r1 : Nat} {r2 : Nat} (hp1 : (shq r1).1 = 1) (hp2 : (shq r2).1 = 8)
    (h : G Θ (d + 1) 33 2 [some (.ref 110), some (.ref r1), some (.ref r2), some (.int 0)] [] σ Q) :
    G Θ (d + 1) 33 0 [some (.ref 110), some (.ref r1), some (.ref r2), none] [] σ Q := by
  refine r_iconst (v := 0) ok33 0 rfl rfl rfl ?_
  refine r_istore_n ok33 1 rfl rfl ?_
  exact h

set_option maxRecDepth 100000 in
set_option maxHeartbeats 4000000 in
theorem B33_2 {Θ : Th} {d : Nat} {σ : Mem} {Q : Po} {r1 : Nat} {r2 : Nat} {x3 : Int32} (hp1 : (shq r1).1 = 1) (hp2 : (shq r2).1 = 8)
    (h : (((σ.1 r1 4) ≤ x3 → Ci Θ d 17 [.ref r1] (sI (sI (sI σ 110 0 17) 110 1 0) 110 2 0) (fun v2 σ2 => Cv Θ d 34 [.ref 110, .int v2, .int 0, .int 0] σ2 (fun σ3 => Q none σ3))) ∧ (¬ (σ.1 r1 4) ≤ x3 → Ci Θ d 81 [.ref r2, .ref r1, .int x3] σ (fun v4 σ4 => (vp_in x3 16 ∧ G Θ (d + 1) 33 2 [some (.ref 110), some (.ref r1), some (.ref r2), some (.int (x3 + 1))] [] (sI σ4 111 (x3.toNatClampNeg) v4) Q))))) :
    G Θ (d + 1) 33 2 [some (.ref 110), some (.ref r1), some (.ref r2), some (.int x3)] [] σ Q := by
  refine r_iload_n ok33 2 rfl rfl rfl ?_
  refine r_aload_n ok33 3 rfl rfl rfl ?_
  refine r_getI ok33 4 rfl rfl hp1 rfl ?_
  refine r_icmp_ge ok33 5 rfl rfl (fun c1 => ?_) (fun c1 => ?_)
  · have h1 := h.1 c1
    refine r_aload_n ok33 16 rfl rfl rfl ?_
    refine r_bipush (v := 17) ok33 17 rfl rfl rfl ?_
    refine r_putI ok33 18 rfl rfl rfl rfl ?_
    refine r_aload_n ok33 19 rfl rfl rfl ?_
    refine r_iconst (v := 0) ok33 20 rfl rfl rfl ?_
    refine r_putI ok33 21 rfl rfl rfl rfl ?_
    refine r_aload_n ok33 22 rfl rfl rfl ?_
    refine r_iconst (v := 0) ok33 23 rfl rfl rfl ?_
    refine r_putI ok33 24 rfl rfl rfl rfl ?_
    refine r_aload_n ok33 25 rfl rfl rfl ?_
    refine r_aload_n ok33 26 rfl rfl rfl ?_
    refine r_invVi (as := []) (S := [.ref 110]) ok33 27 rfl rfl mf17 hp1 rfl (Nat.le_of_ble_eq_true rfl) rfl h1 (fun v2 σ2 h2 => ?_)
    refine r_iconst (v := 0) ok33 28 rfl rfl rfl ?_
    refine r_iconst (v := 0) ok33 29 rfl rfl rfl ?_
    refine r_invVv (as := [.int v2, .int 0, .int 0]) (S := []) ok33 30 rfl rfl mf34 rfl rfl (Nat.le_of_ble_eq_true rfl) rfl h2 (fun σ3 h3 => ?_)
    exact r_ret ok33 31 rfl rfl rfl h3
  · have h1 := h.2 c1
    refine r_aload_n ok33 6 rfl rfl rfl ?_
    refine r_getF ok33 7 rfl rfl rfl rfl ?_
    refine r_iload_n ok33 8 rfl rfl rfl ?_
    refine r_aload_n ok33 9 rfl rfl rfl ?_
    refine r_aload_n ok33 10 rfl rfl rfl ?_
    refine r_iload_n ok33 11 rfl rfl rfl ?_
    refine r_invVi (as := [.ref r1, .int x3]) (S := [.int x3, .ref 111]) ok33 12 rfl rfl mf81 hp2 rfl (Nat.le_of_ble_eq_true rfl) rfl h1 (fun v4 σ4 h4 => ?_)
    obtain ⟨c5, h5⟩ := h4
    refine r_iast ok33 13 rfl rfl rfl c5 ?_
    refine r_iinc (v := x3 + 1) ok33 14 rfl rfl rfl rfl ?_
    refine r_goto ok33 15 rfl rfl ?_
    exact h5

theorem K33 {Θ : Th} {d : Nat} {σ : Mem} {Q : Po} {r1 : Nat} {r2 : Nat} (h : G Θ (d + 1) 33 0 [some (.ref 110), some (.ref r1), some (.ref r2), none] [] σ Q) : Cm Θ (d + 1) 33 [.ref 110, .ref r1, .ref r2] σ Q :=
  C_of_G okM33 (Nat.le_of_ble_eq_true rfl) rfl h

-- 34: LikeYears$Choices.search(III)V
set_option maxRecDepth 100000 in
set_option maxHeartbeats 4000000 in
theorem B34_0 {Θ : Th} {d : Nat} {σ : Mem} {Q : Po} {x1 : Int32} {x2 : Int32} {x3 : Int32} 
    (h : Ci Θ d 286 [.int x2] σ (fun v1 σ1 => (((σ1.1 110 0) < v1 → Q none σ1) ∧ (¬ (σ1.1 110 0) < v1 → ((x3 ≤ 16 → Ci Θ d 35 [.ref 110, .int x1] σ1 (fun v4 σ4 => ((0 ≤ v4 → Cv Θ d 34 [.ref 110, .int (x1 &&& (((1 : Int32) <<< (v4 &&& 31)) ^^^ (-1))), .int (x2 ||| ((1 : Int32) <<< (v4 &&& 31))), .int (x3 + 1)] σ4 (fun σ6 => (vp_in v4 16 ∧ (vp_in v4 16 ∧ Cv Θ d 34 [.ref 110, .int ((x1 &&& (((1 : Int32) <<< (v4 &&& 31)) ^^^ (-1))) &&& ((σ6.1 111 v4.toNatClampNeg) ^^^ (-1))), .int (x2 ||| ((σ6.1 111 v4.toNatClampNeg) &&& x1)), .int (x3 + 1)] σ6 (fun σ9 => Q none σ9))))) ∧ (¬ 0 ≤ v4 → Cv Θ d 36 [.ref 110, .int x2, .int v1] σ4 (fun σ10 => Q none σ10))))) ∧ (¬ x3 ≤ 16 → Q none σ1)))))) :
    G Θ (d + 1) 34 0 [some (.ref 110), some (.int x1), some (.int x2), some (.int x3), none, none, none] [] σ Q := by
  refine r_iload_n ok34 0 rfl rfl rfl ?_
  refine r_invSi (as := [.int x2]) (S := []) ok34 1 rfl rfl mf286 rfl (Nat.le_of_ble_eq_true rfl) rfl h (fun v1 σ1 h1 => ?_)
  refine r_istore ok34 2 rfl rfl ?_
  refine r_iload ok34 3 rfl rfl rfl ?_
  refine r_aload_n ok34 4 rfl rfl rfl ?_
  refine r_getI ok34 5 rfl rfl rfl rfl ?_
  refine r_icmp_gt ok34 6 rfl rfl (fun c2 => ?_) (fun c2 => ?_)
  · have h2 := h1.1 c2
    exact r_ret ok34 10 rfl rfl rfl h2
  · have h2 := h1.2 c2
    refine r_iload_n ok34 7 rfl rfl rfl ?_
    refine r_bipush (v := 16) ok34 8 rfl rfl rfl ?_
    refine r_icmp_le ok34 9 rfl rfl (fun c3 => ?_) (fun c3 => ?_)
    · have h3 := h2.1 c3
      refine r_aload_n ok34 11 rfl rfl rfl ?_
      refine r_iload_n ok34 12 rfl rfl rfl ?_
      refine r_invVi (as := [.int x1]) (S := []) ok34 13 rfl rfl mf35 rfl rfl (Nat.le_of_ble_eq_true rfl) rfl h3 (fun v4 σ4 h4 => ?_)
      refine r_istore ok34 14 rfl rfl ?_
      refine r_iload ok34 15 rfl rfl rfl ?_
      refine r_if_ge ok34 16 rfl rfl (fun c5 => ?_) (fun c5 => ?_)
      · have h5 := h4.1 c5
        refine r_iload_n ok34 22 rfl rfl rfl ?_
        refine r_iconst (v := 1) ok34 23 rfl rfl rfl ?_
        refine r_iload ok34 24 rfl rfl rfl ?_
        refine r_ishl ok34 25 rfl rfl ?_
        refine r_iconst (v := (-1)) ok34 26 rfl rfl rfl ?_
        refine r_ixor ok34 27 rfl rfl ?_
        refine r_iand ok34 28 rfl rfl ?_
        refine r_istore ok34 29 rfl rfl ?_
        refine r_aload_n ok34 30 rfl rfl rfl ?_
        refine r_iload ok34 31 rfl rfl rfl ?_
        refine r_iload_n ok34 32 rfl rfl rfl ?_
        refine r_iconst (v := 1) ok34 33 rfl rfl rfl ?_
        refine r_iload ok34 34 rfl rfl rfl ?_
        refine r_ishl ok34 35 rfl rfl ?_
        refine r_ior ok34 36 rfl rfl ?_
        refine r_iload_n ok34 37 rfl rfl rfl ?_
        refine r_iconst (v := 1) ok34 38 rfl rfl rfl ?_
        refine r_iadd ok34 39 rfl rfl ?_
        refine r_invVv (as := [.int (x1 &&& (((1 : Int32) <<< (v4 &&& 31)) ^^^ (-1))), .int (x2 ||| ((1 : Int32) <<< (v4 &&& 31))), .int (x3 + 1)]) (S := []) ok34 40 rfl rfl mf34 rfl rfl (Nat.le_of_ble_eq_true rfl) rfl h5 (fun σ6 h6 => ?_)
        refine r_aload_n ok34 41 rfl rfl rfl ?_
        refine r_iload ok34 42 rfl rfl rfl ?_
        refine r_aload_n ok34 43 rfl rfl rfl ?_
        refine r_getF ok34 44 rfl rfl rfl rfl ?_
        refine r_iload ok34 45 rfl rfl rfl ?_
        obtain ⟨c7, h7⟩ := h6
        refine r_iald ok34 46 rfl rfl rfl c7 ?_
        refine r_iconst (v := (-1)) ok34 47 rfl rfl rfl ?_
        refine r_ixor ok34 48 rfl rfl ?_
        refine r_iand ok34 49 rfl rfl ?_
        refine r_iload_n ok34 50 rfl rfl rfl ?_
        refine r_aload_n ok34 51 rfl rfl rfl ?_
        refine r_getF ok34 52 rfl rfl rfl rfl ?_
        refine r_iload ok34 53 rfl rfl rfl ?_
        obtain ⟨c8, h8⟩ := h7
        refine r_iald ok34 54 rfl rfl rfl c8 ?_
        refine r_iload_n ok34 55 rfl rfl rfl ?_
        refine r_iand ok34 56 rfl rfl ?_
        refine r_ior ok34 57 rfl rfl ?_
        refine r_iload_n ok34 58 rfl rfl rfl ?_
        refine r_iconst (v := 1) ok34 59 rfl rfl rfl ?_
        refine r_iadd ok34 60 rfl rfl ?_
        refine r_invVv (as := [.int ((x1 &&& (((1 : Int32) <<< (v4 &&& 31)) ^^^ (-1))) &&& ((σ6.1 111 v4.toNatClampNeg) ^^^ (-1))), .int (x2 ||| ((σ6.1 111 v4.toNatClampNeg) &&& x1)), .int (x3 + 1)]) (S := []) ok34 61 rfl rfl mf34 rfl rfl (Nat.le_of_ble_eq_true rfl) rfl h8 (fun σ9 h9 => ?_)
        exact r_ret ok34 62 rfl rfl rfl h9
      · have h5 := h4.2 c5
        refine r_aload_n ok34 17 rfl rfl rfl ?_
        refine r_iload_n ok34 18 rfl rfl rfl ?_
        refine r_iload ok34 19 rfl rfl rfl ?_
        refine r_invVv (as := [.int x2, .int v1]) (S := []) ok34 20 rfl rfl mf36 rfl rfl (Nat.le_of_ble_eq_true rfl) rfl h5 (fun σ10 h10 => ?_)
        exact r_ret ok34 21 rfl rfl rfl h10
    · have h3 := h2.2 c3
      exact r_ret ok34 10 rfl rfl rfl h3

theorem K34 {Θ : Th} {d : Nat} {σ : Mem} {Q : Po} {x1 : Int32} {x2 : Int32} {x3 : Int32} (h : G Θ (d + 1) 34 0 [some (.ref 110), some (.int x1), some (.int x2), some (.int x3), none, none, none] [] σ Q) : Cm Θ (d + 1) 34 [.ref 110, .int x1, .int x2, .int x3] σ Q :=
  C_of_G okM34 (Nat.le_of_ble_eq_true rfl) rfl h

-- 35: LikeYears$Choices.mostFoes(I)I
set_option maxRecDepth 100000 in
set_option maxHeartbeats 4000000 in
theorem B35_0 {Θ : Th} {d : Nat} {σ : Mem} {Q : Po} {x1 : Int32} 
    (h : G Θ (d + 1) 35 7 [some (.ref 110), some (.int x1), some (.int (-1)), some (.int 0), some (.int 0)] [] σ Q) :
    G Θ (d + 1) 35 0 [some (.ref 110), some (.int x1), none, none, none] [] σ Q := by
  refine r_iconst (v := (-1)) ok35 0 rfl rfl rfl ?_
  refine r_istore_n ok35 1 rfl rfl ?_
  refine r_iconst (v := 0) ok35 2 rfl rfl rfl ?_
  refine r_istore_n ok35 3 rfl rfl ?_
  refine r_iconst (v := 0) ok35 4 rfl rfl rfl ?_
  refine r_istore ok35 5 rfl rfl ?_
  exact h

set_option maxRecDepth 100000 in
set_option maxHeartbeats 4000000 in
theorem B35_7 {Θ : Th} {d : Nat} {σ : Mem} {Q : Po} {x1 : Int32} {x2 : Int32} {x3 : Int32} {x4 : Int32} 
    (h : ((16 ≤ x4 → Q (some (.int x2)) σ) ∧ (¬ 16 ≤ x4 → ((((x1 >>> (x4 &&& 31)) &&& 1) = 0 → G Θ (d + 1) 35 7 [some (.ref 110), some (.int x1), some (.int x2), some (.int x3), some (.int (x4 + 1))] [] σ Q) ∧ (¬ ((x1 >>> (x4 &&& 31)) &&& 1) = 0 → (vp_in x4 16 ∧ Ci Θ d 286 [.int ((σ.1 111 x4.toNatClampNeg) &&& x1)] σ (fun v4 σ4 => ((v4 ≤ x3 → G Θ (d + 1) 35 7 [some (.ref 110), some (.int x1), some (.int x2), some (.int x3), some (.int (x4 + 1))] [] σ4 Q) ∧ (¬ v4 ≤ x3 → (vp_in x4 16 ∧ Ci Θ d 286 [.int ((σ4.1 111 x4.toNatClampNeg) &&& x1)] σ4 (fun v7 σ7 => G Θ (d + 1) 35 7 [some (.ref 110), some (.int x1), some (.int x4), some (.int v7), some (.int (x4 + 1))] [] σ7 Q))))))))))) :
    G Θ (d + 1) 35 7 [some (.ref 110), some (.int x1), some (.int x2), some (.int x3), some (.int x4)] [] σ Q := by
  refine r_iload ok35 6 rfl rfl rfl ?_
  refine r_bipush (v := 16) ok35 7 rfl rfl rfl ?_
  refine r_icmp_ge ok35 8 rfl rfl (fun c1 => ?_) (fun c1 => ?_)
  · have h1 := h.1 c1
    refine r_iload_n ok35 36 rfl rfl rfl ?_
    exact r_iret ok35 37 rfl rfl rfl h1
  · have h1 := h.2 c1
    refine r_iload_n ok35 9 rfl rfl rfl ?_
    refine r_iload ok35 10 rfl rfl rfl ?_
    refine r_ishr ok35 11 rfl rfl ?_
    refine r_iconst (v := 1) ok35 12 rfl rfl rfl ?_
    refine r_iand ok35 13 rfl rfl ?_
    refine r_if_eq ok35 14 rfl rfl (fun c2 => ?_) (fun c2 => ?_)
    · have h2 := h1.1 c2
      refine r_iinc (v := x4 + 1) ok35 34 rfl rfl rfl rfl ?_
      refine r_goto ok35 35 rfl rfl ?_
      exact h2
    · have h2 := h1.2 c2
      refine r_aload_n ok35 15 rfl rfl rfl ?_
      refine r_getF ok35 16 rfl rfl rfl rfl ?_
      refine r_iload ok35 17 rfl rfl rfl ?_
      obtain ⟨c3, h3⟩ := h2
      refine r_iald ok35 18 rfl rfl rfl c3 ?_
      refine r_iload_n ok35 19 rfl rfl rfl ?_
      refine r_iand ok35 20 rfl rfl ?_
      refine r_invSi (as := [.int ((σ.1 111 x4.toNatClampNeg) &&& x1)]) (S := []) ok35 21 rfl rfl mf286 rfl (Nat.le_of_ble_eq_true rfl) rfl h3 (fun v4 σ4 h4 => ?_)
      refine r_iload_n ok35 22 rfl rfl rfl ?_
      refine r_icmp_le ok35 23 rfl rfl (fun c5 => ?_) (fun c5 => ?_)
      · have h5 := h4.1 c5
        refine r_iinc (v := x4 + 1) ok35 34 rfl rfl rfl rfl ?_
        refine r_goto ok35 35 rfl rfl ?_
        exact h5
      · have h5 := h4.2 c5
        refine r_aload_n ok35 24 rfl rfl rfl ?_
        refine r_getF ok35 25 rfl rfl rfl rfl ?_
        refine r_iload ok35 26 rfl rfl rfl ?_
        obtain ⟨c6, h6⟩ := h5
        refine r_iald ok35 27 rfl rfl rfl c6 ?_
        refine r_iload_n ok35 28 rfl rfl rfl ?_
        refine r_iand ok35 29 rfl rfl ?_
        refine r_invSi (as := [.int ((σ4.1 111 x4.toNatClampNeg) &&& x1)]) (S := []) ok35 30 rfl rfl mf286 rfl (Nat.le_of_ble_eq_true rfl) rfl h6 (fun v7 σ7 h7 => ?_)
        refine r_istore_n ok35 31 rfl rfl ?_
        refine r_iload ok35 32 rfl rfl rfl ?_
        refine r_istore_n ok35 33 rfl rfl ?_
        refine r_iinc (v := x4 + 1) ok35 34 rfl rfl rfl rfl ?_
        refine r_goto ok35 35 rfl rfl ?_
        exact h7

theorem K35 {Θ : Th} {d : Nat} {σ : Mem} {Q : Po} {x1 : Int32} (h : G Θ (d + 1) 35 0 [some (.ref 110), some (.int x1), none, none, none] [] σ Q) : Cm Θ (d + 1) 35 [.ref 110, .int x1] σ Q :=
  C_of_G okM35 (Nat.le_of_ble_eq_true rfl) rfl h

-- 36: LikeYears$Choices.note(II)V
set_option maxRecDepth 100000 in
set_option maxHeartbeats 4000000 in
theorem B36_0 {Θ : Th} {d : Nat} {σ : Mem} {Q : Po} {x1 : Int32} {x2 : Int32} 
    (h : (((σ.1 110 0) ≤ x2 → Q none (sI (sI σ 110 2 ((σ.1 110 2) + 1)) 110 1 (if x1 < ((sI σ 110 2 ((σ.1 110 2) + 1)).1 110 1) then x1 else (sI σ 110 2 ((σ.1 110 2) + 1)).1 110 1))) ∧ (¬ (σ.1 110 0) ≤ x2 → Q none (sI (sI (sI (sI (sI σ 110 0 x2) 110 1 x1) 110 2 0) 110 2 (((sI (sI (sI σ 110 0 x2) 110 1 x1) 110 2 0).1 110 2) + 1)) 110 1 (if x1 < ((sI (sI (sI (sI σ 110 0 x2) 110 1 x1) 110 2 0) 110 2 (((sI (sI (sI σ 110 0 x2) 110 1 x1) 110 2 0).1 110 2) + 1)).1 110 1) then x1 else (sI (sI (sI (sI σ 110 0 x2) 110 1 x1) 110 2 0) 110 2 (((sI (sI (sI σ 110 0 x2) 110 1 x1) 110 2 0).1 110 2) + 1)).1 110 1))))) :
    G Θ (d + 1) 36 0 [some (.ref 110), some (.int x1), some (.int x2)] [] σ Q := by
  refine r_iload_n ok36 0 rfl rfl rfl ?_
  refine r_aload_n ok36 1 rfl rfl rfl ?_
  refine r_getI ok36 2 rfl rfl rfl rfl ?_
  refine r_icmp_ge ok36 3 rfl rfl (fun c1 => ?_) (fun c1 => ?_)
  · have h1 := h.1 c1
    refine r_aload_n ok36 13 rfl rfl rfl ?_
    refine r_dup ok36 14 rfl rfl rfl ?_
    refine r_getI ok36 15 rfl rfl rfl rfl ?_
    refine r_iconst (v := 1) ok36 16 rfl rfl rfl ?_
    refine r_iadd ok36 17 rfl rfl ?_
    refine r_putI ok36 18 rfl rfl rfl rfl ?_
    refine r_aload_n ok36 19 rfl rfl rfl ?_
    refine r_aload_n ok36 20 rfl rfl rfl ?_
    refine r_getI ok36 21 rfl rfl rfl rfl ?_
    refine r_iload_n ok36 22 rfl rfl rfl ?_
    refine r_mmin ok36 23 rfl rfl rfl (Nat.le_of_ble_eq_true rfl) w_min (Nat.le_of_ble_eq_true rfl) ?_
    refine r_putI ok36 24 rfl rfl rfl rfl ?_
    exact r_ret ok36 25 rfl rfl rfl h1
  · have h1 := h.2 c1
    refine r_aload_n ok36 4 rfl rfl rfl ?_
    refine r_iload_n ok36 5 rfl rfl rfl ?_
    refine r_putI ok36 6 rfl rfl rfl rfl ?_
    refine r_aload_n ok36 7 rfl rfl rfl ?_
    refine r_iload_n ok36 8 rfl rfl rfl ?_
    refine r_putI ok36 9 rfl rfl rfl rfl ?_
    refine r_aload_n ok36 10 rfl rfl rfl ?_
    refine r_iconst (v := 0) ok36 11 rfl rfl rfl ?_
    refine r_putI ok36 12 rfl rfl rfl rfl ?_
    refine r_aload_n ok36 13 rfl rfl rfl ?_
    refine r_dup ok36 14 rfl rfl rfl ?_
    refine r_getI ok36 15 rfl rfl rfl rfl ?_
    refine r_iconst (v := 1) ok36 16 rfl rfl rfl ?_
    refine r_iadd ok36 17 rfl rfl ?_
    refine r_putI ok36 18 rfl rfl rfl rfl ?_
    refine r_aload_n ok36 19 rfl rfl rfl ?_
    refine r_aload_n ok36 20 rfl rfl rfl ?_
    refine r_getI ok36 21 rfl rfl rfl rfl ?_
    refine r_iload_n ok36 22 rfl rfl rfl ?_
    refine r_mmin ok36 23 rfl rfl rfl (Nat.le_of_ble_eq_true rfl) w_min (Nat.le_of_ble_eq_true rfl) ?_
    refine r_putI ok36 24 rfl rfl rfl rfl ?_
    exact r_ret ok36 25 rfl rfl rfl h1

theorem K36 {Θ : Th} {d : Nat} {σ : Mem} {Q : Po} {x1 : Int32} {x2 : Int32} (h : G Θ (d + 1) 36 0 [some (.ref 110), some (.int x1), some (.int x2)] [] σ Q) : Cm Θ (d + 1) 36 [.ref 110, .int x1, .int x2] σ Q :=
  C_of_G okM36 (Nat.le_of_ble_eq_true rfl) rfl h

-- 37: LikeYears$Choices.draws([IIII)I
set_option maxRecDepth 100000 in
set_option maxHeartbeats 4000000 in
theorem B37_0 {Θ : Th} {d : Nat} {σ : Mem} {Q : Po} {r1 n1 : Nat} {x2 : Int32} {x3 : Int32} {x4 : Int32} (hp1 : shq r1 = (20, n1))
    (h : G Θ (d + 1) 37 8 [some (.ref 110), some (.ref r1), some (.int x2), some (.int x3), some (.int x4), some (.int 0), none] [] (sI σ 110 6 x2) Q) :
    G Θ (d + 1) 37 0 [some (.ref 110), some (.ref r1), some (.int x2), some (.int x3), some (.int x4), none, none] [] σ Q := by
  refine r_aload_n ok37 0 rfl rfl rfl ?_
  refine r_iload_n ok37 1 rfl rfl rfl ?_
  refine r_putI ok37 2 rfl rfl rfl rfl ?_
  refine r_iconst (v := 0) ok37 3 rfl rfl rfl ?_
  refine r_istore ok37 4 rfl rfl ?_
  exact h

set_option maxRecDepth 100000 in
set_option maxHeartbeats 4000000 in
theorem B37_8 {Θ : Th} {d : Nat} {σ : Mem} {Q : Po} {r1 n1 : Nat} {x2 : Int32} {x3 : Int32} {x4 : Int32} {x5 : Int32} (hp1 : shq r1 = (20, n1))
    (h : ((x2 ≤ x5 → G Θ (d + 1) 37 81 [some (.ref 110), none, some (.int x2), some (.int x3), some (.int x4), some (.int 0), none] [] σ Q) ∧ (¬ x2 ≤ x5 → G Θ (d + 1) 37 18 [some (.ref 110), some (.ref r1), some (.int x2), some (.int x3), some (.int x4), some (.int x5), some (.int x5)] [] σ Q))) :
    G Θ (d + 1) 37 8 [some (.ref 110), some (.ref r1), some (.int x2), some (.int x3), some (.int x4), some (.int x5), none] [] σ Q := by
  refine r_iload ok37 5 rfl rfl rfl ?_
  refine r_iload_n ok37 6 rfl rfl rfl ?_
  refine r_icmp_ge ok37 7 rfl rfl (fun c1 => ?_) (fun c1 => ?_)
  · have h1 := h.1 c1
    refine r_iconst (v := 0) ok37 43 rfl rfl rfl ?_
    refine r_istore ok37 44 rfl rfl ?_
    exact G.weak (L' := [some (.ref 110), none, some (.int x2), some (.int x3), some (.int x4), some (.int 0), none]) ⟨rfl, ⟨rfl, ⟨rfl, ⟨rfl, ⟨rfl, trivial⟩⟩⟩⟩⟩ h1
  · have h1 := h.2 c1
    refine r_iload ok37 8 rfl rfl rfl ?_
    refine r_istore ok37 9 rfl rfl ?_
    exact h1

set_option maxRecDepth 100000 in
set_option maxHeartbeats 4000000 in
theorem B37_81 {Θ : Th} {d : Nat} {σ : Mem} {Q : Po} {x2 : Int32} {x3 : Int32} {x4 : Int32} {x5 : Int32} 
    (h : ((x2 ≤ x5 → Ci Θ d 38 [.ref 110, .int 0, .int x3, .int x4] σ (fun v2 σ2 => Q (some (.int v2)) σ2)) ∧ (¬ x2 ≤ x5 → (vp_in x5 17 ∧ (vp_in x5 16 ∧ (vp_in (x5 + 1) 17 ∧ G Θ (d + 1) 37 81 [some (.ref 110), none, some (.int x2), some (.int x3), some (.int x4), some (.int (x5 + 1)), none] [] (sI σ 113 ((x5 + 1).toNatClampNeg) ((σ.1 113 x5.toNatClampNeg) + (σ.1 112 x5.toNatClampNeg))) Q)))))) :
    G Θ (d + 1) 37 81 [some (.ref 110), none, some (.int x2), some (.int x3), some (.int x4), some (.int x5), none] [] σ Q := by
  refine r_iload ok37 45 rfl rfl rfl ?_
  refine r_iload_n ok37 46 rfl rfl rfl ?_
  refine r_icmp_ge ok37 47 rfl rfl (fun c1 => ?_) (fun c1 => ?_)
  · have h1 := h.1 c1
    refine r_aload_n ok37 65 rfl rfl rfl ?_
    refine r_iconst (v := 0) ok37 66 rfl rfl rfl ?_
    refine r_iload_n ok37 67 rfl rfl rfl ?_
    refine r_iload ok37 68 rfl rfl rfl ?_
    refine r_invVi (as := [.int 0, .int x3, .int x4]) (S := []) ok37 69 rfl rfl mf38 rfl rfl (Nat.le_of_ble_eq_true rfl) rfl h1 (fun v2 σ2 h2 => ?_)
    exact r_iret ok37 70 rfl rfl rfl h2
  · have h1 := h.2 c1
    refine r_aload_n ok37 48 rfl rfl rfl ?_
    refine r_getF ok37 49 rfl rfl rfl rfl ?_
    refine r_iload ok37 50 rfl rfl rfl ?_
    refine r_iconst (v := 1) ok37 51 rfl rfl rfl ?_
    refine r_iadd ok37 52 rfl rfl ?_
    refine r_aload_n ok37 53 rfl rfl rfl ?_
    refine r_getF ok37 54 rfl rfl rfl rfl ?_
    refine r_iload ok37 55 rfl rfl rfl ?_
    obtain ⟨c3, h3⟩ := h1
    refine r_iald ok37 56 rfl rfl rfl c3 ?_
    refine r_aload_n ok37 57 rfl rfl rfl ?_
    refine r_getF ok37 58 rfl rfl rfl rfl ?_
    refine r_iload ok37 59 rfl rfl rfl ?_
    obtain ⟨c4, h4⟩ := h3
    refine r_iald ok37 60 rfl rfl rfl c4 ?_
    refine r_iadd ok37 61 rfl rfl ?_
    obtain ⟨c5, h5⟩ := h4
    refine r_iast ok37 62 rfl rfl rfl c5 ?_
    refine r_iinc (v := x5 + 1) ok37 63 rfl rfl rfl rfl ?_
    refine r_goto ok37 64 rfl rfl ?_
    exact h5

set_option maxRecDepth 100000 in
set_option maxHeartbeats 4000000 in
theorem B37_18 {Θ : Th} {d : Nat} {σ : Mem} {Q : Po} {r1 n1 : Nat} {x2 : Int32} {x3 : Int32} {x4 : Int32} {x5 : Int32} {x6 : Int32} (hp1 : shq r1 = (20, n1))
    (h : ((x6 ≤ 0 → (vp_in x5 n1 ∧ (vp_in x6 16 ∧ G Θ (d + 1) 37 8 [some (.ref 110), some (.ref r1), some (.int x2), some (.int x3), some (.int x4), some (.int (x5 + 1)), none] [] (sI σ 112 (x6.toNatClampNeg) (σ.1 r1 x5.toNatClampNeg)) Q))) ∧ (¬ x6 ≤ 0 → (vp_in (x6 - 1) 16 ∧ (vp_in x5 n1 ∧ (((σ.1 r1 x5.toNatClampNeg) ≤ (σ.1 112 (x6 - 1).toNatClampNeg) → (vp_in x5 n1 ∧ (vp_in x6 16 ∧ G Θ (d + 1) 37 8 [some (.ref 110), some (.ref r1), some (.int x2), some (.int x3), some (.int x4), some (.int (x5 + 1)), none] [] (sI σ 112 (x6.toNatClampNeg) (σ.1 r1 x5.toNatClampNeg)) Q))) ∧ (¬ (σ.1 r1 x5.toNatClampNeg) ≤ (σ.1 112 (x6 - 1).toNatClampNeg) → (vp_in (x6 - 1) 16 ∧ (vp_in x6 16 ∧ G Θ (d + 1) 37 18 [some (.ref 110), some (.ref r1), some (.int x2), some (.int x3), some (.int x4), some (.int x5), some (.int (x6 + (-1)))] [] (sI σ 112 (x6.toNatClampNeg) (σ.1 112 (x6 - 1).toNatClampNeg)) Q))))))))) :
    G Θ (d + 1) 37 18 [some (.ref 110), some (.ref r1), some (.int x2), some (.int x3), some (.int x4), some (.int x5), some (.int x6)] [] σ Q := by
  refine r_iload ok37 10 rfl rfl rfl ?_
  refine r_if_le ok37 11 rfl rfl (fun c1 => ?_) (fun c1 => ?_)
  · have h1 := h.1 c1
    refine r_aload_n ok37 34 rfl rfl rfl ?_
    refine r_getF ok37 35 rfl rfl rfl rfl ?_
    refine r_iload ok37 36 rfl rfl rfl ?_
    refine r_aload_n ok37 37 rfl rfl rfl ?_
    refine r_iload ok37 38 rfl rfl rfl ?_
    obtain ⟨c2, h2⟩ := h1
    refine r_iald ok37 39 rfl rfl hp1 c2 ?_
    obtain ⟨c3, h3⟩ := h2
    refine r_iast ok37 40 rfl rfl rfl c3 ?_
    refine r_iinc (v := x5 + 1) ok37 41 rfl rfl rfl rfl ?_
    refine r_goto ok37 42 rfl rfl ?_
    exact G.weak (L' := [some (.ref 110), some (.ref r1), some (.int x2), some (.int x3), some (.int x4), some (.int (x5 + 1)), none]) ⟨rfl, ⟨rfl, ⟨rfl, ⟨rfl, ⟨rfl, ⟨rfl, trivial⟩⟩⟩⟩⟩⟩ h3
  · have h1 := h.2 c1
    refine r_aload_n ok37 12 rfl rfl rfl ?_
    refine r_getF ok37 13 rfl rfl rfl rfl ?_
    refine r_iload ok37 14 rfl rfl rfl ?_
    refine r_iconst (v := 1) ok37 15 rfl rfl rfl ?_
    refine r_isub ok37 16 rfl rfl ?_
    obtain ⟨c4, h4⟩ := h1
    refine r_iald ok37 17 rfl rfl rfl c4 ?_
    refine r_aload_n ok37 18 rfl rfl rfl ?_
    refine r_iload ok37 19 rfl rfl rfl ?_
    obtain ⟨c5, h5⟩ := h4
    refine r_iald ok37 20 rfl rfl hp1 c5 ?_
    refine r_icmp_ge ok37 21 rfl rfl (fun c6 => ?_) (fun c6 => ?_)
    · have h6 := h5.1 c6
      refine r_aload_n ok37 34 rfl rfl rfl ?_
      refine r_getF ok37 35 rfl rfl rfl rfl ?_
      refine r_iload ok37 36 rfl rfl rfl ?_
      refine r_aload_n ok37 37 rfl rfl rfl ?_
      refine r_iload ok37 38 rfl rfl rfl ?_
      obtain ⟨c7, h7⟩ := h6
      refine r_iald ok37 39 rfl rfl hp1 c7 ?_
      obtain ⟨c8, h8⟩ := h7
      refine r_iast ok37 40 rfl rfl rfl c8 ?_
      refine r_iinc (v := x5 + 1) ok37 41 rfl rfl rfl rfl ?_
      refine r_goto ok37 42 rfl rfl ?_
      exact G.weak (L' := [some (.ref 110), some (.ref r1), some (.int x2), some (.int x3), some (.int x4), some (.int (x5 + 1)), none]) ⟨rfl, ⟨rfl, ⟨rfl, ⟨rfl, ⟨rfl, ⟨rfl, trivial⟩⟩⟩⟩⟩⟩ h8
    · have h6 := h5.2 c6
      refine r_aload_n ok37 22 rfl rfl rfl ?_
      refine r_getF ok37 23 rfl rfl rfl rfl ?_
      refine r_iload ok37 24 rfl rfl rfl ?_
      refine r_aload_n ok37 25 rfl rfl rfl ?_
      refine r_getF ok37 26 rfl rfl rfl rfl ?_
      refine r_iload ok37 27 rfl rfl rfl ?_
      refine r_iconst (v := 1) ok37 28 rfl rfl rfl ?_
      refine r_isub ok37 29 rfl rfl ?_
      obtain ⟨c9, h9⟩ := h6
      refine r_iald ok37 30 rfl rfl rfl c9 ?_
      obtain ⟨c10, h10⟩ := h9
      refine r_iast ok37 31 rfl rfl rfl c10 ?_
      refine r_iinc (v := x6 + (-1)) ok37 32 rfl rfl rfl rfl ?_
      refine r_goto ok37 33 rfl rfl ?_
      exact h10

theorem K37 {Θ : Th} {d : Nat} {σ : Mem} {Q : Po} {r1 n1 : Nat} {x2 : Int32} {x3 : Int32} {x4 : Int32} (h : G Θ (d + 1) 37 0 [some (.ref 110), some (.ref r1), some (.int x2), some (.int x3), some (.int x4), none, none] [] σ Q) : Cm Θ (d + 1) 37 [.ref 110, .ref r1, .int x2, .int x3, .int x4] σ Q :=
  C_of_G okM37 (Nat.le_of_ble_eq_true rfl) rfl h

-- 38: LikeYears$Choices.drawsFrom(III)I
set_option maxRecDepth 100000 in
set_option maxHeartbeats 4000000 in
theorem B38_0 {Θ : Th} {d : Nat} {σ : Mem} {Q : Po} {x1 : Int32} {x2 : Int32} {x3 : Int32} 
    (h : ((x2 < 0 → Q (some (.int 0)) σ) ∧ (¬ x2 < 0 → ((((σ.1 110 6) - x1) < x2 → Q (some (.int 0)) σ) ∧ (¬ ((σ.1 110 6) - x1) < x2 → (vp_in (x1 + x2) 17 ∧ (vp_in x1 17 ∧ ((x3 ≤ ((σ.1 113 (x1 + x2).toNatClampNeg) - (σ.1 113 x1.toNatClampNeg)) → (vp_in (σ.1 110 6) 17 ∧ (vp_in ((σ.1 110 6) - x2) 17 ∧ ((((σ.1 113 (σ.1 110 6).toNatClampNeg) - (σ.1 113 ((σ.1 110 6) - x2).toNatClampNeg)) < x3 → (vp_in x1 16 ∧ Ci Θ d 38 [.ref 110, .int (x1 + 1), .int (x2 - 1), .int (x3 - (σ.1 112 x1.toNatClampNeg))] σ (fun v10 σ10 => Ci Θ d 38 [.ref 110, .int (x1 + 1), .int x2, .int x3] σ10 (fun v11 σ11 => Q (some (.int (v10 + v11))) σ11)))) ∧ (¬ ((σ.1 113 (σ.1 110 6).toNatClampNeg) - (σ.1 113 ((σ.1 110 6) - x2).toNatClampNeg)) < x3 → Ci Θ d 39 [.int ((σ.1 110 6) - x1), .int x2] σ (fun v12 σ12 => Q (some (.int v12)) σ12)))))) ∧ (¬ x3 ≤ ((σ.1 113 (x1 + x2).toNatClampNeg) - (σ.1 113 x1.toNatClampNeg)) → Q (some (.int 0)) σ))))))))) :
    G Θ (d + 1) 38 0 [some (.ref 110), some (.int x1), some (.int x2), some (.int x3), none] [] σ Q := by
  refine r_aload_n ok38 0 rfl rfl rfl ?_
  refine r_getI ok38 1 rfl rfl rfl rfl ?_
  refine r_iload_n ok38 2 rfl rfl rfl ?_
  refine r_isub ok38 3 rfl rfl ?_
  refine r_istore ok38 4 rfl rfl ?_
  refine r_iload_n ok38 5 rfl rfl rfl ?_
  refine r_if_lt ok38 6 rfl rfl (fun c1 => ?_) (fun c1 => ?_)
  · have h1 := h.1 c1
    refine r_iconst (v := 0) ok38 23 rfl rfl rfl ?_
    exact r_iret ok38 24 rfl rfl rfl h1
  · have h1 := h.2 c1
    refine r_iload_n ok38 7 rfl rfl rfl ?_
    refine r_iload ok38 8 rfl rfl rfl ?_
    refine r_icmp_gt ok38 9 rfl rfl (fun c2 => ?_) (fun c2 => ?_)
    · have h2 := h1.1 c2
      refine r_iconst (v := 0) ok38 23 rfl rfl rfl ?_
      exact r_iret ok38 24 rfl rfl rfl h2
    · have h2 := h1.2 c2
      refine r_aload_n ok38 10 rfl rfl rfl ?_
      refine r_getF ok38 11 rfl rfl rfl rfl ?_
      refine r_iload_n ok38 12 rfl rfl rfl ?_
      refine r_iload_n ok38 13 rfl rfl rfl ?_
      refine r_iadd ok38 14 rfl rfl ?_
      obtain ⟨c3, h3⟩ := h2
      refine r_iald ok38 15 rfl rfl rfl c3 ?_
      refine r_aload_n ok38 16 rfl rfl rfl ?_
      refine r_getF ok38 17 rfl rfl rfl rfl ?_
      refine r_iload_n ok38 18 rfl rfl rfl ?_
      obtain ⟨c4, h4⟩ := h3
      refine r_iald ok38 19 rfl rfl rfl c4 ?_
      refine r_isub ok38 20 rfl rfl ?_
      refine r_iload_n ok38 21 rfl rfl rfl ?_
      refine r_icmp_ge ok38 22 rfl rfl (fun c5 => ?_) (fun c5 => ?_)
      · have h5 := h4.1 c5
        refine r_aload_n ok38 25 rfl rfl rfl ?_
        refine r_getF ok38 26 rfl rfl rfl rfl ?_
        refine r_aload_n ok38 27 rfl rfl rfl ?_
        refine r_getI ok38 28 rfl rfl rfl rfl ?_
        obtain ⟨c6, h6⟩ := h5
        refine r_iald ok38 29 rfl rfl rfl c6 ?_
        refine r_aload_n ok38 30 rfl rfl rfl ?_
        refine r_getF ok38 31 rfl rfl rfl rfl ?_
        refine r_aload_n ok38 32 rfl rfl rfl ?_
        refine r_getI ok38 33 rfl rfl rfl rfl ?_
        refine r_iload_n ok38 34 rfl rfl rfl ?_
        refine r_isub ok38 35 rfl rfl ?_
        obtain ⟨c7, h7⟩ := h6
        refine r_iald ok38 36 rfl rfl rfl c7 ?_
        refine r_isub ok38 37 rfl rfl ?_
        refine r_iload_n ok38 38 rfl rfl rfl ?_
        refine r_icmp_lt ok38 39 rfl rfl (fun c8 => ?_) (fun c8 => ?_)
        · have h8 := h7.1 c8
          refine r_aload_n ok38 44 rfl rfl rfl ?_
          refine r_iload_n ok38 45 rfl rfl rfl ?_
          refine r_iconst (v := 1) ok38 46 rfl rfl rfl ?_
          refine r_iadd ok38 47 rfl rfl ?_
          refine r_iload_n ok38 48 rfl rfl rfl ?_
          refine r_iconst (v := 1) ok38 49 rfl rfl rfl ?_
          refine r_isub ok38 50 rfl rfl ?_
          refine r_iload_n ok38 51 rfl rfl rfl ?_
          refine r_aload_n ok38 52 rfl rfl rfl ?_
          refine r_getF ok38 53 rfl rfl rfl rfl ?_
          refine r_iload_n ok38 54 rfl rfl rfl ?_
          obtain ⟨c9, h9⟩ := h8
          refine r_iald ok38 55 rfl rfl rfl c9 ?_
          refine r_isub ok38 56 rfl rfl ?_
          refine r_invVi (as := [.int (x1 + 1), .int (x2 - 1), .int (x3 - (σ.1 112 x1.toNatClampNeg))]) (S := []) ok38 57 rfl rfl mf38 rfl rfl (Nat.le_of_ble_eq_true rfl) rfl h9 (fun v10 σ10 h10 => ?_)
          refine r_aload_n ok38 58 rfl rfl rfl ?_
          refine r_iload_n ok38 59 rfl rfl rfl ?_
          refine r_iconst (v := 1) ok38 60 rfl rfl rfl ?_
          refine r_iadd ok38 61 rfl rfl ?_
          refine r_iload_n ok38 62 rfl rfl rfl ?_
          refine r_iload_n ok38 63 rfl rfl rfl ?_
          refine r_invVi (as := [.int (x1 + 1), .int x2, .int x3]) (S := [.int v10]) ok38 64 rfl rfl mf38 rfl rfl (Nat.le_of_ble_eq_true rfl) rfl h10 (fun v11 σ11 h11 => ?_)
          refine r_iadd ok38 65 rfl rfl ?_
          exact r_iret ok38 66 rfl rfl rfl h11
        · have h8 := h7.2 c8
          refine r_iload ok38 40 rfl rfl rfl ?_
          refine r_iload_n ok38 41 rfl rfl rfl ?_
          refine r_invSi (as := [.int ((σ.1 110 6) - x1), .int x2]) (S := []) ok38 42 rfl rfl mf39 rfl (Nat.le_of_ble_eq_true rfl) rfl h8 (fun v12 σ12 h12 => ?_)
          exact r_iret ok38 43 rfl rfl rfl h12
      · have h5 := h4.2 c5
        refine r_iconst (v := 0) ok38 23 rfl rfl rfl ?_
        exact r_iret ok38 24 rfl rfl rfl h5

theorem K38 {Θ : Th} {d : Nat} {σ : Mem} {Q : Po} {x1 : Int32} {x2 : Int32} {x3 : Int32} (h : G Θ (d + 1) 38 0 [some (.ref 110), some (.int x1), some (.int x2), some (.int x3), none] [] σ Q) : Cm Θ (d + 1) 38 [.ref 110, .int x1, .int x2, .int x3] σ Q :=
  C_of_G okM38 (Nat.le_of_ble_eq_true rfl) rfl h

-- 39: LikeYears$Choices.choose(II)I
set_option maxRecDepth 100000 in
set_option maxHeartbeats 4000000 in
theorem B39_0 {Θ : Th} {d : Nat} {σ : Mem} {Q : Po} {x0 : Int32} {x1 : Int32} 
    (h : G Θ d 39 4 [some (.int x0), some (.int x1), some (.int 1), some (.int 1)] [] σ Q) :
    G Θ d 39 0 [some (.int x0), some (.int x1), none, none] [] σ Q := by
  refine r_iconst (v := 1) ok39 0 rfl rfl rfl ?_
  refine r_istore_n ok39 1 rfl rfl ?_
  refine r_iconst (v := 1) ok39 2 rfl rfl rfl ?_
  refine r_istore_n ok39 3 rfl rfl ?_
  exact h

set_option maxRecDepth 100000 in
set_option maxHeartbeats 4000000 in
theorem B39_4 {Θ : Th} {d : Nat} {σ : Mem} {Q : Po} {x0 : Int32} {x1 : Int32} {x2 : Int32} {x3 : Int32} 
    (h : ((x1 < x3 → Q (some (.int x2)) σ) ∧ (¬ x1 < x3 → (¬ x3 = 0 ∧ G Θ d 39 4 [some (.int x0), some (.int x1), some (.int ((x2 * ((x0 - x1) + x3)) / x3)), some (.int (x3 + 1))] [] σ Q)))) :
    G Θ d 39 4 [some (.int x0), some (.int x1), some (.int x2), some (.int x3)] [] σ Q := by
  refine r_iload_n ok39 4 rfl rfl rfl ?_
  refine r_iload_n ok39 5 rfl rfl rfl ?_
  refine r_icmp_gt ok39 6 rfl rfl (fun c1 => ?_) (fun c1 => ?_)
  · have h1 := h.1 c1
    refine r_iload_n ok39 19 rfl rfl rfl ?_
    exact r_iret ok39 20 rfl rfl rfl h1
  · have h1 := h.2 c1
    refine r_iload_n ok39 7 rfl rfl rfl ?_
    refine r_iload_n ok39 8 rfl rfl rfl ?_
    refine r_iload_n ok39 9 rfl rfl rfl ?_
    refine r_isub ok39 10 rfl rfl ?_
    refine r_iload_n ok39 11 rfl rfl rfl ?_
    refine r_iadd ok39 12 rfl rfl ?_
    refine r_imul ok39 13 rfl rfl ?_
    refine r_iload_n ok39 14 rfl rfl rfl ?_
    obtain ⟨c2, h2⟩ := h1
    refine r_idiv ok39 15 rfl rfl c2 ?_
    refine r_istore_n ok39 16 rfl rfl ?_
    refine r_iinc (v := x3 + 1) ok39 17 rfl rfl rfl rfl ?_
    refine r_goto ok39 18 rfl rfl ?_
    exact h2

theorem K39 {Θ : Th} {d : Nat} {σ : Mem} {Q : Po} {x0 : Int32} {x1 : Int32} (h : G Θ d 39 0 [some (.int x0), some (.int x1), none, none] [] σ Q) : Cm Θ d 39 [.int x0, .int x1] σ Q :=
  C_of_G okM39 (Nat.le_of_ble_eq_true rfl) rfl h

-- 40: LikeYears$Cut.choose(I[I)I
set_option maxRecDepth 100000 in
set_option maxHeartbeats 4000000 in
theorem B40_0 {Θ : Th} {d : Nat} {σ : Mem} {Q : Po} {x1 : Int32} {r2 n2 : Nat} (hp2 : shq r2 = (20, n2))
    (h : (r2 ≠ 0 ∧ Cv Θ d 41 [.ref 86, .int x1] (sR σ 86 5 r2) (fun σ2 => ((¬ (σ2.1 86 6) = 0 → Ci Θ d 43 [.ref 86] σ2 (fun v4 σ4 => G Θ (d + 1) 40 27 [some (.ref 86), some (.int x1), none, some (.int v4), some (.int 0), none] [] σ4 Q)) ∧ ((σ2.1 86 6) = 0 → Q (some (.int 0)) σ2))))) :
    G Θ (d + 1) 40 0 [some (.ref 86), some (.int x1), some (.ref r2), none, none, none] [] σ Q := by
  refine r_aload_n ok40 0 rfl rfl rfl ?_
  refine r_aload_n ok40 1 rfl rfl rfl ?_
  obtain ⟨c1, h1⟩ := h
  refine r_putR ok40 2 rfl rfl rfl rfl c1 ?_
  refine r_aload_n ok40 3 rfl rfl rfl ?_
  refine r_iload_n ok40 4 rfl rfl rfl ?_
  refine r_invVv (as := [.int x1]) (S := []) ok40 5 rfl rfl mf41 rfl rfl (Nat.le_of_ble_eq_true rfl) rfl h1 (fun σ2 h2 => ?_)
  refine r_aload_n ok40 6 rfl rfl rfl ?_
  refine r_getI ok40 7 rfl rfl rfl rfl ?_
  refine r_if_ne ok40 8 rfl rfl (fun c3 => ?_) (fun c3 => ?_)
  · have h3 := h2.1 c3
    refine r_aload_n ok40 11 rfl rfl rfl ?_
    refine r_invVi (as := []) (S := []) ok40 12 rfl rfl mf43 rfl rfl (Nat.le_of_ble_eq_true rfl) rfl h3 (fun v4 σ4 h4 => ?_)
    refine r_istore_n ok40 13 rfl rfl ?_
    refine r_iconst (v := 0) ok40 14 rfl rfl rfl ?_
    refine r_istore ok40 15 rfl rfl ?_
    exact G.weak (L' := [some (.ref 86), some (.int x1), none, some (.int v4), some (.int 0), none]) ⟨rfl, ⟨rfl, ⟨rfl, ⟨rfl, trivial⟩⟩⟩⟩ h4
  · have h3 := h2.2 c3
    refine r_iconst (v := 0) ok40 9 rfl rfl rfl ?_
    exact r_iret ok40 10 rfl rfl rfl h3

set_option maxRecDepth 100000 in
set_option maxHeartbeats 4000000 in
theorem B40_27 {Θ : Th} {d : Nat} {σ : Mem} {Q : Po} {x1 : Int32} {x3 : Int32} {x4 : Int32} 
    (h : ((100000 ≤ x4 → G Θ (d + 1) 40 60 [some (.ref 86), some (.int x1), none, none, some (.int 0), some (.int 0)] [] σ Q) ∧ (¬ 100000 ≤ x4 → ((x3 < 0 → G Θ (d + 1) 40 60 [some (.ref 86), some (.int x1), none, none, some (.int 0), some (.int 0)] [] σ Q) ∧ (¬ x3 < 0 → Cv Θ d 46 [.ref 86, .int x3] σ (fun σ3 => Ci Θ d 43 [.ref 86] σ3 (fun v4 σ4 => G Θ (d + 1) 40 27 [some (.ref 86), some (.int x1), none, some (.int v4), some (.int (x4 + 1)), none] [] σ4 Q))))))) :
    G Θ (d + 1) 40 27 [some (.ref 86), some (.int x1), none, some (.int x3), some (.int x4), none] [] σ Q := by
  refine r_iload ok40 16 rfl rfl rfl ?_
  refine r_ldc (v := 100000) ok40 17 rfl rfl (by decide) rfl ?_
  refine r_icmp_ge ok40 18 rfl rfl (fun c1 => ?_) (fun c1 => ?_)
  · have h1 := h.1 c1
    refine r_iconst (v := 0) ok40 29 rfl rfl rfl ?_
    refine r_istore ok40 30 rfl rfl ?_
    refine r_iconst (v := 0) ok40 31 rfl rfl rfl ?_
    refine r_istore ok40 32 rfl rfl ?_
    exact G.weak (L' := [some (.ref 86), some (.int x1), none, none, some (.int 0), some (.int 0)]) ⟨rfl, ⟨rfl, ⟨rfl, ⟨rfl, trivial⟩⟩⟩⟩ h1
  · have h1 := h.2 c1
    refine r_iload_n ok40 19 rfl rfl rfl ?_
    refine r_if_lt ok40 20 rfl rfl (fun c2 => ?_) (fun c2 => ?_)
    · have h2 := h1.1 c2
      refine r_iconst (v := 0) ok40 29 rfl rfl rfl ?_
      refine r_istore ok40 30 rfl rfl ?_
      refine r_iconst (v := 0) ok40 31 rfl rfl rfl ?_
      refine r_istore ok40 32 rfl rfl ?_
      exact G.weak (L' := [some (.ref 86), some (.int x1), none, none, some (.int 0), some (.int 0)]) ⟨rfl, ⟨rfl, ⟨rfl, ⟨rfl, trivial⟩⟩⟩⟩ h2
    · have h2 := h1.2 c2
      refine r_aload_n ok40 21 rfl rfl rfl ?_
      refine r_iload_n ok40 22 rfl rfl rfl ?_
      refine r_invVv (as := [.int x3]) (S := []) ok40 23 rfl rfl mf46 rfl rfl (Nat.le_of_ble_eq_true rfl) rfl h2 (fun σ3 h3 => ?_)
      refine r_aload_n ok40 24 rfl rfl rfl ?_
      refine r_invVi (as := []) (S := []) ok40 25 rfl rfl mf43 rfl rfl (Nat.le_of_ble_eq_true rfl) rfl h3 (fun v4 σ4 h4 => ?_)
      refine r_istore_n ok40 26 rfl rfl ?_
      refine r_iinc (v := x4 + 1) ok40 27 rfl rfl rfl rfl ?_
      refine r_goto ok40 28 rfl rfl ?_
      exact h4

set_option maxRecDepth 100000 in
set_option maxHeartbeats 4000000 in
theorem B40_60 {Θ : Th} {d : Nat} {σ : Mem} {Q : Po} {x1 : Int32} {x4 : Int32} {x5 : Int32} 
    (h : ((16 ≤ x5 → Q (some (.int x4)) σ) ∧ (¬ 16 ≤ x5 → ((((((σ.1 86 8) >>> (x5 &&& 31)) &&& ((σ.1 86 6) >>> (x5 &&& 31))) &&& 1) = 0 → G Θ (d + 1) 40 60 [some (.ref 86), some (.int x1), none, none, some (.int x4), some (.int (x5 + 1))] [] σ Q) ∧ (¬ ((((σ.1 86 8) >>> (x5 &&& 31)) &&& ((σ.1 86 6) >>> (x5 &&& 31))) &&& 1) = 0 → (σ.2.2 86 5 ≠ 0 ∧ shq (σ.2.2 86 5) = (20, 16) ∧ (vp_in x5 16 ∧ G Θ (d + 1) 40 60 [some (.ref 86), some (.int x1), none, none, some (.int (x4 ||| ((σ.1 (σ.2.2 86 5) x5.toNatClampNeg) &&& x1))), some (.int (x5 + 1))] [] σ Q))))))) :
    G Θ (d + 1) 40 60 [some (.ref 86), some (.int x1), none, none, some (.int x4), some (.int x5)] [] σ Q := by
  refine r_iload ok40 33 rfl rfl rfl ?_
  refine r_bipush (v := 16) ok40 34 rfl rfl rfl ?_
  refine r_icmp_ge ok40 35 rfl rfl (fun c1 => ?_) (fun c1 => ?_)
  · have h1 := h.1 c1
    refine r_iload ok40 59 rfl rfl rfl ?_
    exact r_iret ok40 60 rfl rfl rfl h1
  · have h1 := h.2 c1
    refine r_aload_n ok40 36 rfl rfl rfl ?_
    refine r_getI ok40 37 rfl rfl rfl rfl ?_
    refine r_iload ok40 38 rfl rfl rfl ?_
    refine r_ishr ok40 39 rfl rfl ?_
    refine r_aload_n ok40 40 rfl rfl rfl ?_
    refine r_getI ok40 41 rfl rfl rfl rfl ?_
    refine r_iload ok40 42 rfl rfl rfl ?_
    refine r_ishr ok40 43 rfl rfl ?_
    refine r_iand ok40 44 rfl rfl ?_
    refine r_iconst (v := 1) ok40 45 rfl rfl rfl ?_
    refine r_iand ok40 46 rfl rfl ?_
    refine r_if_eq ok40 47 rfl rfl (fun c2 => ?_) (fun c2 => ?_)
    · have h2 := h1.1 c2
      refine r_iinc (v := x5 + 1) ok40 57 rfl rfl rfl rfl ?_
      refine r_goto ok40 58 rfl rfl ?_
      exact h2
    · have h2 := h1.2 c2
      refine r_iload ok40 48 rfl rfl rfl ?_
      refine r_aload_n ok40 49 rfl rfl rfl ?_
      obtain ⟨c3, s3, h3⟩ := h2
      refine r_getR ok40 50 rfl rfl rfl rfl c3 ?_
      refine r_iload ok40 51 rfl rfl rfl ?_
      obtain ⟨c4, h4⟩ := h3
      refine r_iald ok40 52 rfl rfl s3 c4 ?_
      refine r_iload_n ok40 53 rfl rfl rfl ?_
      refine r_iand ok40 54 rfl rfl ?_
      refine r_ior ok40 55 rfl rfl ?_
      refine r_istore ok40 56 rfl rfl ?_
      refine r_iinc (v := x5 + 1) ok40 57 rfl rfl rfl rfl ?_
      refine r_goto ok40 58 rfl rfl ?_
      exact h4

theorem K40 {Θ : Th} {d : Nat} {σ : Mem} {Q : Po} {x1 : Int32} {r2 n2 : Nat} (h : G Θ (d + 1) 40 0 [some (.ref 86), some (.int x1), some (.ref r2), none, none, none] [] σ Q) : Cm Θ (d + 1) 40 [.ref 86, .int x1, .ref r2] σ Q :=
  C_of_G okM40 (Nat.le_of_ble_eq_true rfl) rfl h

-- 41: LikeYears$Cut.prepare(I)V
set_option maxRecDepth 100000 in
set_option maxHeartbeats 4000000 in
theorem B41_0 {Θ : Th} {d : Nat} {σ : Mem} {Q : Po} {x1 : Int32} 
    (h : G Θ (d + 1) 41 12 [some (.ref 86), some (.int x1), some (.int 0)] [] (sI (sI σ 86 6 0) 86 7 0) Q) :
    G Θ (d + 1) 41 0 [some (.ref 86), some (.int x1), none] [] σ Q := by
  refine r_aload_n ok41 0 rfl rfl rfl ?_
  refine r_iconst (v := 0) ok41 1 rfl rfl rfl ?_
  refine r_putI ok41 2 rfl rfl rfl rfl ?_
  refine r_aload_n ok41 3 rfl rfl rfl ?_
  refine r_iconst (v := 0) ok41 4 rfl rfl rfl ?_
  refine r_putI ok41 5 rfl rfl rfl rfl ?_
  refine r_iconst (v := 0) ok41 6 rfl rfl rfl ?_
  refine r_istore_n ok41 7 rfl rfl ?_
  exact h

set_option maxRecDepth 100000 in
set_option maxHeartbeats 4000000 in
theorem B41_12 {Θ : Th} {d : Nat} {σ : Mem} {Q : Po} {x1 : Int32} {x2 : Int32} 
    (h : ((16 ≤ x2 → Cv Θ d 292 [.ref 89, .int 0] σ (fun σ2 => Q none σ2)) ∧ (¬ 16 ≤ x2 → ((((x1 >>> (x2 &&& 31)) &&& 1) = 0 → G Θ (d + 1) 41 12 [some (.ref 86), some (.int x1), some (.int (x2 + 1))] [] σ Q) ∧ (¬ ((x1 >>> (x2 &&& 31)) &&& 1) = 0 → (vp_in x2 16 ∧ (vp_in x2 16 ∧ (vp_in x2 16 ∧ ((((sI σ 88 (x2.toNatClampNeg) (if 0 ≤ (σ.1 87 x2.toNatClampNeg) then σ.1 87 x2.toNatClampNeg else 0 - (σ.1 87 x2.toNatClampNeg))).1 87 x2.toNatClampNeg) ≤ 0 → (vp_in x2 16 ∧ ((0 ≤ ((sI (sI σ 88 (x2.toNatClampNeg) (if 0 ≤ (σ.1 87 x2.toNatClampNeg) then σ.1 87 x2.toNatClampNeg else 0 - (σ.1 87 x2.toNatClampNeg))) 86 6 (((sI σ 88 (x2.toNatClampNeg) (if 0 ≤ (σ.1 87 x2.toNatClampNeg) then σ.1 87 x2.toNatClampNeg else 0 - (σ.1 87 x2.toNatClampNeg))).1 86 6) ||| 0)).1 87 x2.toNatClampNeg) → G Θ (d + 1) 41 12 [some (.ref 86), some (.int x1), some (.int (x2 + 1))] [] (sI (sI (sI σ 88 (x2.toNatClampNeg) (if 0 ≤ (σ.1 87 x2.toNatClampNeg) then σ.1 87 x2.toNatClampNeg else 0 - (σ.1 87 x2.toNatClampNeg))) 86 6 (((sI σ 88 (x2.toNatClampNeg) (if 0 ≤ (σ.1 87 x2.toNatClampNeg) then σ.1 87 x2.toNatClampNeg else 0 - (σ.1 87 x2.toNatClampNeg))).1 86 6) ||| 0)) 86 7 (((sI (sI σ 88 (x2.toNatClampNeg) (if 0 ≤ (σ.1 87 x2.toNatClampNeg) then σ.1 87 x2.toNatClampNeg else 0 - (σ.1 87 x2.toNatClampNeg))) 86 6 (((sI σ 88 (x2.toNatClampNeg) (if 0 ≤ (σ.1 87 x2.toNatClampNeg) then σ.1 87 x2.toNatClampNeg else 0 - (σ.1 87 x2.toNatClampNeg))).1 86 6) ||| 0)).1 86 7) ||| 0)) Q) ∧ (¬ 0 ≤ ((sI (sI σ 88 (x2.toNatClampNeg) (if 0 ≤ (σ.1 87 x2.toNatClampNeg) then σ.1 87 x2.toNatClampNeg else 0 - (σ.1 87 x2.toNatClampNeg))) 86 6 (((sI σ 88 (x2.toNatClampNeg) (if 0 ≤ (σ.1 87 x2.toNatClampNeg) then σ.1 87 x2.toNatClampNeg else 0 - (σ.1 87 x2.toNatClampNeg))).1 86 6) ||| 0)).1 87 x2.toNatClampNeg) → G Θ (d + 1) 41 12 [some (.ref 86), some (.int x1), some (.int (x2 + 1))] [] (sI (sI (sI σ 88 (x2.toNatClampNeg) (if 0 ≤ (σ.1 87 x2.toNatClampNeg) then σ.1 87 x2.toNatClampNeg else 0 - (σ.1 87 x2.toNatClampNeg))) 86 6 (((sI σ 88 (x2.toNatClampNeg) (if 0 ≤ (σ.1 87 x2.toNatClampNeg) then σ.1 87 x2.toNatClampNeg else 0 - (σ.1 87 x2.toNatClampNeg))).1 86 6) ||| 0)) 86 7 (((sI (sI σ 88 (x2.toNatClampNeg) (if 0 ≤ (σ.1 87 x2.toNatClampNeg) then σ.1 87 x2.toNatClampNeg else 0 - (σ.1 87 x2.toNatClampNeg))) 86 6 (((sI σ 88 (x2.toNatClampNeg) (if 0 ≤ (σ.1 87 x2.toNatClampNeg) then σ.1 87 x2.toNatClampNeg else 0 - (σ.1 87 x2.toNatClampNeg))).1 86 6) ||| 0)).1 86 7) ||| ((1 : Int32) <<< (x2 &&& 31)))) Q)))) ∧ (¬ ((sI σ 88 (x2.toNatClampNeg) (if 0 ≤ (σ.1 87 x2.toNatClampNeg) then σ.1 87 x2.toNatClampNeg else 0 - (σ.1 87 x2.toNatClampNeg))).1 87 x2.toNatClampNeg) ≤ 0 → (vp_in x2 16 ∧ ((0 ≤ ((sI (sI σ 88 (x2.toNatClampNeg) (if 0 ≤ (σ.1 87 x2.toNatClampNeg) then σ.1 87 x2.toNatClampNeg else 0 - (σ.1 87 x2.toNatClampNeg))) 86 6 (((sI σ 88 (x2.toNatClampNeg) (if 0 ≤ (σ.1 87 x2.toNatClampNeg) then σ.1 87 x2.toNatClampNeg else 0 - (σ.1 87 x2.toNatClampNeg))).1 86 6) ||| ((1 : Int32) <<< (x2 &&& 31)))).1 87 x2.toNatClampNeg) → G Θ (d + 1) 41 12 [some (.ref 86), some (.int x1), some (.int (x2 + 1))] [] (sI (sI (sI σ 88 (x2.toNatClampNeg) (if 0 ≤ (σ.1 87 x2.toNatClampNeg) then σ.1 87 x2.toNatClampNeg else 0 - (σ.1 87 x2.toNatClampNeg))) 86 6 (((sI σ 88 (x2.toNatClampNeg) (if 0 ≤ (σ.1 87 x2.toNatClampNeg) then σ.1 87 x2.toNatClampNeg else 0 - (σ.1 87 x2.toNatClampNeg))).1 86 6) ||| ((1 : Int32) <<< (x2 &&& 31)))) 86 7 (((sI (sI σ 88 (x2.toNatClampNeg) (if 0 ≤ (σ.1 87 x2.toNatClampNeg) then σ.1 87 x2.toNatClampNeg else 0 - (σ.1 87 x2.toNatClampNeg))) 86 6 (((sI σ 88 (x2.toNatClampNeg) (if 0 ≤ (σ.1 87 x2.toNatClampNeg) then σ.1 87 x2.toNatClampNeg else 0 - (σ.1 87 x2.toNatClampNeg))).1 86 6) ||| ((1 : Int32) <<< (x2 &&& 31)))).1 86 7) ||| 0)) Q) ∧ (¬ 0 ≤ ((sI (sI σ 88 (x2.toNatClampNeg) (if 0 ≤ (σ.1 87 x2.toNatClampNeg) then σ.1 87 x2.toNatClampNeg else 0 - (σ.1 87 x2.toNatClampNeg))) 86 6 (((sI σ 88 (x2.toNatClampNeg) (if 0 ≤ (σ.1 87 x2.toNatClampNeg) then σ.1 87 x2.toNatClampNeg else 0 - (σ.1 87 x2.toNatClampNeg))).1 86 6) ||| ((1 : Int32) <<< (x2 &&& 31)))).1 87 x2.toNatClampNeg) → G Θ (d + 1) 41 12 [some (.ref 86), some (.int x1), some (.int (x2 + 1))] [] (sI (sI (sI σ 88 (x2.toNatClampNeg) (if 0 ≤ (σ.1 87 x2.toNatClampNeg) then σ.1 87 x2.toNatClampNeg else 0 - (σ.1 87 x2.toNatClampNeg))) 86 6 (((sI σ 88 (x2.toNatClampNeg) (if 0 ≤ (σ.1 87 x2.toNatClampNeg) then σ.1 87 x2.toNatClampNeg else 0 - (σ.1 87 x2.toNatClampNeg))).1 86 6) ||| ((1 : Int32) <<< (x2 &&& 31)))) 86 7 (((sI (sI σ 88 (x2.toNatClampNeg) (if 0 ≤ (σ.1 87 x2.toNatClampNeg) then σ.1 87 x2.toNatClampNeg else 0 - (σ.1 87 x2.toNatClampNeg))) 86 6 (((sI σ 88 (x2.toNatClampNeg) (if 0 ≤ (σ.1 87 x2.toNatClampNeg) then σ.1 87 x2.toNatClampNeg else 0 - (σ.1 87 x2.toNatClampNeg))).1 86 6) ||| ((1 : Int32) <<< (x2 &&& 31)))).1 86 7) ||| ((1 : Int32) <<< (x2 &&& 31)))) Q))))))))))))) :
    G Θ (d + 1) 41 12 [some (.ref 86), some (.int x1), some (.int x2)] [] σ Q := by
  refine r_iload_n ok41 8 rfl rfl rfl ?_
  refine r_bipush (v := 16) ok41 9 rfl rfl rfl ?_
  refine r_icmp_ge ok41 10 rfl rfl (fun c1 => ?_) (fun c1 => ?_)
  · have h1 := h.1 c1
    refine r_aload_n ok41 58 rfl rfl rfl ?_
    refine r_getF ok41 59 rfl rfl rfl rfl ?_
    refine r_iconst (v := 0) ok41 60 rfl rfl rfl ?_
    refine r_invSv (as := [.ref 89, .int 0]) (S := []) ok41 61 rfl rfl mf292 rfl (Nat.le_of_ble_eq_true rfl) rfl h1 (fun σ2 h2 => ?_)
    exact r_ret ok41 62 rfl rfl rfl h2
  · have h1 := h.2 c1
    refine r_iload_n ok41 11 rfl rfl rfl ?_
    refine r_iload_n ok41 12 rfl rfl rfl ?_
    refine r_ishr ok41 13 rfl rfl ?_
    refine r_iconst (v := 1) ok41 14 rfl rfl rfl ?_
    refine r_iand ok41 15 rfl rfl ?_
    refine r_if_eq ok41 16 rfl rfl (fun c3 => ?_) (fun c3 => ?_)
    · have h3 := h1.1 c3
      refine r_iinc (v := x2 + 1) ok41 56 rfl rfl rfl rfl ?_
      refine r_goto ok41 57 rfl rfl ?_
      exact h3
    · have h3 := h1.2 c3
      refine r_aload_n ok41 17 rfl rfl rfl ?_
      refine r_getF ok41 18 rfl rfl rfl rfl ?_
      refine r_iload_n ok41 19 rfl rfl rfl ?_
      refine r_aload_n ok41 20 rfl rfl rfl ?_
      refine r_getF ok41 21 rfl rfl rfl rfl ?_
      refine r_iload_n ok41 22 rfl rfl rfl ?_
      obtain ⟨c4, h4⟩ := h3
      refine r_iald ok41 23 rfl rfl rfl c4 ?_
      refine r_mabs ok41 24 rfl rfl rfl (Nat.le_of_ble_eq_true rfl) w_abs (Nat.le_of_ble_eq_true rfl) ?_
      obtain ⟨c5, h5⟩ := h4
      refine r_iast ok41 25 rfl rfl rfl c5 ?_
      refine r_aload_n ok41 26 rfl rfl rfl ?_
      refine r_dup ok41 27 rfl rfl rfl ?_
      refine r_getI ok41 28 rfl rfl rfl rfl ?_
      refine r_aload_n ok41 29 rfl rfl rfl ?_
      refine r_getF ok41 30 rfl rfl rfl rfl ?_
      refine r_iload_n ok41 31 rfl rfl rfl ?_
      obtain ⟨c6, h6⟩ := h5
      refine r_iald ok41 32 rfl rfl rfl c6 ?_
      refine r_if_le ok41 33 rfl rfl (fun c7 => ?_) (fun c7 => ?_)
      · have h7 := h6.1 c7
        refine r_iconst (v := 0) ok41 38 rfl rfl rfl ?_
        refine r_ior ok41 39 rfl rfl ?_
        refine r_putI ok41 40 rfl rfl rfl rfl ?_
        refine r_aload_n ok41 41 rfl rfl rfl ?_
        refine r_dup ok41 42 rfl rfl rfl ?_
        refine r_getI ok41 43 rfl rfl rfl rfl ?_
        refine r_aload_n ok41 44 rfl rfl rfl ?_
        refine r_getF ok41 45 rfl rfl rfl rfl ?_
        refine r_iload_n ok41 46 rfl rfl rfl ?_
        obtain ⟨c8, h8⟩ := h7
        refine r_iald ok41 47 rfl rfl rfl c8 ?_
        refine r_if_ge ok41 48 rfl rfl (fun c9 => ?_) (fun c9 => ?_)
        · have h9 := h8.1 c9
          refine r_iconst (v := 0) ok41 53 rfl rfl rfl ?_
          refine r_ior ok41 54 rfl rfl ?_
          refine r_putI ok41 55 rfl rfl rfl rfl ?_
          refine r_iinc (v := x2 + 1) ok41 56 rfl rfl rfl rfl ?_
          refine r_goto ok41 57 rfl rfl ?_
          exact h9
        · have h9 := h8.2 c9
          refine r_iconst (v := 1) ok41 49 rfl rfl rfl ?_
          refine r_iload_n ok41 50 rfl rfl rfl ?_
          refine r_ishl ok41 51 rfl rfl ?_
          refine r_goto ok41 52 rfl rfl ?_
          refine r_ior ok41 54 rfl rfl ?_
          refine r_putI ok41 55 rfl rfl rfl rfl ?_
          refine r_iinc (v := x2 + 1) ok41 56 rfl rfl rfl rfl ?_
          refine r_goto ok41 57 rfl rfl ?_
          exact h9
      · have h7 := h6.2 c7
        refine r_iconst (v := 1) ok41 34 rfl rfl rfl ?_
        refine r_iload_n ok41 35 rfl rfl rfl ?_
        refine r_ishl ok41 36 rfl rfl ?_
        refine r_goto ok41 37 rfl rfl ?_
        refine r_ior ok41 39 rfl rfl ?_
        refine r_putI ok41 40 rfl rfl rfl rfl ?_
        refine r_aload_n ok41 41 rfl rfl rfl ?_
        refine r_dup ok41 42 rfl rfl rfl ?_
        refine r_getI ok41 43 rfl rfl rfl rfl ?_
        refine r_aload_n ok41 44 rfl rfl rfl ?_
        refine r_getF ok41 45 rfl rfl rfl rfl ?_
        refine r_iload_n ok41 46 rfl rfl rfl ?_
        obtain ⟨c10, h10⟩ := h7
        refine r_iald ok41 47 rfl rfl rfl c10 ?_
        refine r_if_ge ok41 48 rfl rfl (fun c11 => ?_) (fun c11 => ?_)
        · have h11 := h10.1 c11
          refine r_iconst (v := 0) ok41 53 rfl rfl rfl ?_
          refine r_ior ok41 54 rfl rfl ?_
          refine r_putI ok41 55 rfl rfl rfl rfl ?_
          refine r_iinc (v := x2 + 1) ok41 56 rfl rfl rfl rfl ?_
          refine r_goto ok41 57 rfl rfl ?_
          exact h11
        · have h11 := h10.2 c11
          refine r_iconst (v := 1) ok41 49 rfl rfl rfl ?_
          refine r_iload_n ok41 50 rfl rfl rfl ?_
          refine r_ishl ok41 51 rfl rfl ?_
          refine r_goto ok41 52 rfl rfl ?_
          refine r_ior ok41 54 rfl rfl ?_
          refine r_putI ok41 55 rfl rfl rfl rfl ?_
          refine r_iinc (v := x2 + 1) ok41 56 rfl rfl rfl rfl ?_
          refine r_goto ok41 57 rfl rfl ?_
          exact h11

theorem K41 {Θ : Th} {d : Nat} {σ : Mem} {Q : Po} {x1 : Int32} (h : G Θ (d + 1) 41 0 [some (.ref 86), some (.int x1), none] [] σ Q) : Cm Θ (d + 1) 41 [.ref 86, .int x1] σ Q :=
  C_of_G okM41 (Nat.le_of_ble_eq_true rfl) rfl h

-- 43: LikeYears$Cut.findOpenOwer()I
set_option maxRecDepth 100000 in
set_option maxHeartbeats 4000000 in
theorem B43_0 {Θ : Th} {d : Nat} {σ : Mem} {Q : Po} 
    (h : Ci Θ d 44 [.ref 86] σ (fun v1 σ1 => G Θ (d + 1) 43 7 [some (.ref 86), some (.int v1), some (.int 0), none, none, none] [] σ1 Q)) :
    G Θ (d + 1) 43 0 [some (.ref 86), none, none, none, none, none] [] σ Q := by
  refine r_aload_n ok43 0 rfl rfl rfl ?_
  refine r_invVi (as := []) (S := []) ok43 1 rfl rfl mf44 rfl rfl (Nat.le_of_ble_eq_true rfl) rfl h (fun v1 σ1 h1 => ?_)
  refine r_istore_n ok43 2 rfl rfl ?_
  refine r_iconst (v := 0) ok43 3 rfl rfl rfl ?_
  refine r_istore_n ok43 4 rfl rfl ?_
  exact h1

set_option maxRecDepth 100000 in
set_option maxHeartbeats 4000000 in
theorem B43_7 {Θ : Th} {d : Nat} {σ : Mem} {Q : Po} {x1 : Int32} {x2 : Int32} 
    (h : ((x1 ≤ x2 → Q (some (.int (-1))) σ) ∧ (¬ x1 ≤ x2 → ((16 ≤ x2 → Q (some (.int (-1))) σ) ∧ (¬ 16 ≤ x2 → (vp_in x2 16 ∧ (σ.2.2 86 5 ≠ 0 ∧ shq (σ.2.2 86 5) = (20, 16) ∧ (vp_in (σ.1 91 x2.toNatClampNeg) 16 ∧ G Θ (d + 1) 43 48 [some (.ref 86), some (.int x1), some (.int x2), some (.int (σ.1 91 x2.toNatClampNeg)), some (.int (((σ.1 (σ.2.2 86 5) (σ.1 91 x2.toNatClampNeg).toNatClampNeg) &&& (σ.1 86 7)) &&& ((σ.1 86 8) ^^^ (-1)))), some (.int 0)] [] σ Q)))))))) :
    G Θ (d + 1) 43 7 [some (.ref 86), some (.int x1), some (.int x2), none, none, none] [] σ Q := by
  refine r_iload_n ok43 5 rfl rfl rfl ?_
  refine r_iload_n ok43 6 rfl rfl rfl ?_
  refine r_icmp_ge ok43 7 rfl rfl (fun c1 => ?_) (fun c1 => ?_)
  · have h1 := h.1 c1
    refine r_iconst (v := (-1)) ok43 71 rfl rfl rfl ?_
    exact r_iret ok43 72 rfl rfl rfl h1
  · have h1 := h.2 c1
    refine r_iload_n ok43 8 rfl rfl rfl ?_
    refine r_bipush (v := 16) ok43 9 rfl rfl rfl ?_
    refine r_icmp_ge ok43 10 rfl rfl (fun c2 => ?_) (fun c2 => ?_)
    · have h2 := h1.1 c2
      refine r_iconst (v := (-1)) ok43 71 rfl rfl rfl ?_
      exact r_iret ok43 72 rfl rfl rfl h2
    · have h2 := h1.2 c2
      refine r_aload_n ok43 11 rfl rfl rfl ?_
      refine r_getF ok43 12 rfl rfl rfl rfl ?_
      refine r_iload_n ok43 13 rfl rfl rfl ?_
      obtain ⟨c3, h3⟩ := h2
      refine r_iald ok43 14 rfl rfl rfl c3 ?_
      refine r_istore_n ok43 15 rfl rfl ?_
      refine r_aload_n ok43 16 rfl rfl rfl ?_
      obtain ⟨c4, s4, h4⟩ := h3
      refine r_getR ok43 17 rfl rfl rfl rfl c4 ?_
      refine r_iload_n ok43 18 rfl rfl rfl ?_
      obtain ⟨c5, h5⟩ := h4
      refine r_iald ok43 19 rfl rfl s4 c5 ?_
      refine r_aload_n ok43 20 rfl rfl rfl ?_
      refine r_getI ok43 21 rfl rfl rfl rfl ?_
      refine r_iand ok43 22 rfl rfl ?_
      refine r_aload_n ok43 23 rfl rfl rfl ?_
      refine r_getI ok43 24 rfl rfl rfl rfl ?_
      refine r_iconst (v := (-1)) ok43 25 rfl rfl rfl ?_
      refine r_ixor ok43 26 rfl rfl ?_
      refine r_iand ok43 27 rfl rfl ?_
      refine r_istore ok43 28 rfl rfl ?_
      refine r_iconst (v := 0) ok43 29 rfl rfl rfl ?_
      refine r_istore ok43 30 rfl rfl ?_
      exact h5

set_option maxRecDepth 100000 in
set_option maxHeartbeats 4000000 in
theorem B43_48 {Θ : Th} {d : Nat} {σ : Mem} {Q : Po} {x1 : Int32} {x2 : Int32} {x3 : Int32} {x4 : Int32} {x5 : Int32} 
    (h : ((x4 = 0 → G Θ (d + 1) 43 7 [some (.ref 86), some (.int x1), some (.int (x2 + 1)), none, none, none] [] σ Q) ∧ (¬ x4 = 0 → ((16 ≤ x5 → G Θ (d + 1) 43 7 [some (.ref 86), some (.int x1), some (.int (x2 + 1)), none, none, none] [] σ Q) ∧ (¬ 16 ≤ x5 → ((((x4 >>> (x5 &&& 31)) &&& 1) = 0 → G Θ (d + 1) 43 48 [some (.ref 86), some (.int x1), some (.int x2), some (.int x3), some (.int x4), some (.int (x5 + 1))] [] σ Q) ∧ (¬ ((x4 >>> (x5 &&& 31)) &&& 1) = 0 → (vp_in x5 16 ∧ (vp_in x5 16 ∧ ((((sI (sI σ 90 (x5.toNatClampNeg) x3) 86 8 (((sI σ 90 (x5.toNatClampNeg) x3).1 86 8) ||| ((1 : Int32) <<< (x5 &&& 31)))).1 88 x5.toNatClampNeg) ≤ 0 → Ci Θ d 45 [.ref 86, .int x5, .int x1] (sI (sI σ 90 (x5.toNatClampNeg) x3) 86 8 (((sI σ 90 (x5.toNatClampNeg) x3).1 86 8) ||| ((1 : Int32) <<< (x5 &&& 31)))) (fun v7 σ7 => G Θ (d + 1) 43 48 [some (.ref 86), some (.int v7), some (.int x2), some (.int x3), some (.int x4), some (.int (x5 + 1))] [] σ7 Q)) ∧ (¬ ((sI (sI σ 90 (x5.toNatClampNeg) x3) 86 8 (((sI σ 90 (x5.toNatClampNeg) x3).1 86 8) ||| ((1 : Int32) <<< (x5 &&& 31)))).1 88 x5.toNatClampNeg) ≤ 0 → Q (some (.int x5)) (sI (sI σ 90 (x5.toNatClampNeg) x3) 86 8 (((sI σ 90 (x5.toNatClampNeg) x3).1 86 8) ||| ((1 : Int32) <<< (x5 &&& 31))))))))))))))) :
    G Θ (d + 1) 43 48 [some (.ref 86), some (.int x1), some (.int x2), some (.int x3), some (.int x4), some (.int x5)] [] σ Q := by
  refine r_iload ok43 31 rfl rfl rfl ?_
  refine r_if_eq ok43 32 rfl rfl (fun c1 => ?_) (fun c1 => ?_)
  · have h1 := h.1 c1
    refine r_iinc (v := x2 + 1) ok43 69 rfl rfl rfl rfl ?_
    refine r_goto ok43 70 rfl rfl ?_
    exact G.weak (L' := [some (.ref 86), some (.int x1), some (.int (x2 + 1)), none, none, none]) ⟨rfl, ⟨rfl, ⟨rfl, trivial⟩⟩⟩ h1
  · have h1 := h.2 c1
    refine r_iload ok43 33 rfl rfl rfl ?_
    refine r_bipush (v := 16) ok43 34 rfl rfl rfl ?_
    refine r_icmp_ge ok43 35 rfl rfl (fun c2 => ?_) (fun c2 => ?_)
    · have h2 := h1.1 c2
      refine r_iinc (v := x2 + 1) ok43 69 rfl rfl rfl rfl ?_
      refine r_goto ok43 70 rfl rfl ?_
      exact G.weak (L' := [some (.ref 86), some (.int x1), some (.int (x2 + 1)), none, none, none]) ⟨rfl, ⟨rfl, ⟨rfl, trivial⟩⟩⟩ h2
    · have h2 := h1.2 c2
      refine r_iload ok43 36 rfl rfl rfl ?_
      refine r_iload ok43 37 rfl rfl rfl ?_
      refine r_ishr ok43 38 rfl rfl ?_
      refine r_iconst (v := 1) ok43 39 rfl rfl rfl ?_
      refine r_iand ok43 40 rfl rfl ?_
      refine r_if_eq ok43 41 rfl rfl (fun c3 => ?_) (fun c3 => ?_)
      · have h3 := h2.1 c3
        refine r_iinc (v := x5 + 1) ok43 67 rfl rfl rfl rfl ?_
        refine r_goto ok43 68 rfl rfl ?_
        exact h3
      · have h3 := h2.2 c3
        refine r_aload_n ok43 42 rfl rfl rfl ?_
        refine r_getF ok43 43 rfl rfl rfl rfl ?_
        refine r_iload ok43 44 rfl rfl rfl ?_
        refine r_iload_n ok43 45 rfl rfl rfl ?_
        obtain ⟨c4, h4⟩ := h3
        refine r_iast ok43 46 rfl rfl rfl c4 ?_
        refine r_aload_n ok43 47 rfl rfl rfl ?_
        refine r_dup ok43 48 rfl rfl rfl ?_
        refine r_getI ok43 49 rfl rfl rfl rfl ?_
        refine r_iconst (v := 1) ok43 50 rfl rfl rfl ?_
        refine r_iload ok43 51 rfl rfl rfl ?_
        refine r_ishl ok43 52 rfl rfl ?_
        refine r_ior ok43 53 rfl rfl ?_
        refine r_putI ok43 54 rfl rfl rfl rfl ?_
        refine r_aload_n ok43 55 rfl rfl rfl ?_
        refine r_getF ok43 56 rfl rfl rfl rfl ?_
        refine r_iload ok43 57 rfl rfl rfl ?_
        obtain ⟨c5, h5⟩ := h4
        refine r_iald ok43 58 rfl rfl rfl c5 ?_
        refine r_if_le ok43 59 rfl rfl (fun c6 => ?_) (fun c6 => ?_)
        · have h6 := h5.1 c6
          refine r_aload_n ok43 62 rfl rfl rfl ?_
          refine r_iload ok43 63 rfl rfl rfl ?_
          refine r_iload_n ok43 64 rfl rfl rfl ?_
          refine r_invVi (as := [.int x5, .int x1]) (S := []) ok43 65 rfl rfl mf45 rfl rfl (Nat.le_of_ble_eq_true rfl) rfl h6 (fun v7 σ7 h7 => ?_)
          refine r_istore_n ok43 66 rfl rfl ?_
          refine r_iinc (v := x5 + 1) ok43 67 rfl rfl rfl rfl ?_
          refine r_goto ok43 68 rfl rfl ?_
          exact h7
        · have h6 := h5.2 c6
          refine r_iload ok43 60 rfl rfl rfl ?_
          exact r_iret ok43 61 rfl rfl rfl h6

theorem K43 {Θ : Th} {d : Nat} {σ : Mem} {Q : Po} (h : G Θ (d + 1) 43 0 [some (.ref 86), none, none, none, none, none] [] σ Q) : Cm Θ (d + 1) 43 [.ref 86] σ Q :=
  C_of_G okM43 (Nat.le_of_ble_eq_true rfl) rfl h

-- 44: LikeYears$Cut.startQueue()I
set_option maxRecDepth 100000 in
set_option maxHeartbeats 4000000 in
theorem B44_0 {Θ : Th} {d : Nat} {σ : Mem} {Q : Po} 
    (h : G Θ d 44 9 [some (.ref 86), some (.int 0), some (.int 0)] [] (sI σ 86 8 0) Q) :
    G Θ d 44 0 [some (.ref 86), none, none] [] σ Q := by
  refine r_iconst (v := 0) ok44 0 rfl rfl rfl ?_
  refine r_istore_n ok44 1 rfl rfl ?_
  refine r_aload_n ok44 2 rfl rfl rfl ?_
  refine r_iconst (v := 0) ok44 3 rfl rfl rfl ?_
  refine r_putI ok44 4 rfl rfl rfl rfl ?_
  refine r_iconst (v := 0) ok44 5 rfl rfl rfl ?_
  refine r_istore_n ok44 6 rfl rfl ?_
  exact h

set_option maxRecDepth 100000 in
set_option maxHeartbeats 4000000 in
theorem B44_9 {Θ : Th} {d : Nat} {σ : Mem} {Q : Po} {x1 : Int32} {x2 : Int32} 
    (h : ((16 ≤ x2 → Q (some (.int x1)) σ) ∧ (¬ 16 ≤ x2 → (((((σ.1 86 6) >>> (x2 &&& 31)) &&& 1) = 0 → G Θ d 44 9 [some (.ref 86), some (.int x1), some (.int (x2 + 1))] [] σ Q) ∧ (¬ (((σ.1 86 6) >>> (x2 &&& 31)) &&& 1) = 0 → (vp_in x2 16 ∧ (((σ.1 88 x2.toNatClampNeg) ≤ 0 → G Θ d 44 9 [some (.ref 86), some (.int x1), some (.int (x2 + 1))] [] σ Q) ∧ (¬ (σ.1 88 x2.toNatClampNeg) ≤ 0 → (vp_in x1 16 ∧ (vp_in x2 16 ∧ G Θ d 44 9 [some (.ref 86), some (.int (x1 + 1)), some (.int (x2 + 1))] [] (sI (sI (sI σ 91 (x1.toNatClampNeg) x2) 90 (x2.toNatClampNeg) (-1)) 86 8 (((sI (sI σ 91 (x1.toNatClampNeg) x2) 90 (x2.toNatClampNeg) (-1)).1 86 8) ||| ((1 : Int32) <<< (x2 &&& 31)))) Q)))))))))) :
    G Θ d 44 9 [some (.ref 86), some (.int x1), some (.int x2)] [] σ Q := by
  refine r_iload_n ok44 7 rfl rfl rfl ?_
  refine r_bipush (v := 16) ok44 8 rfl rfl rfl ?_
  refine r_icmp_ge ok44 9 rfl rfl (fun c1 => ?_) (fun c1 => ?_)
  · have h1 := h.1 c1
    refine r_iload_n ok44 43 rfl rfl rfl ?_
    exact r_iret ok44 44 rfl rfl rfl h1
  · have h1 := h.2 c1
    refine r_aload_n ok44 10 rfl rfl rfl ?_
    refine r_getI ok44 11 rfl rfl rfl rfl ?_
    refine r_iload_n ok44 12 rfl rfl rfl ?_
    refine r_ishr ok44 13 rfl rfl ?_
    refine r_iconst (v := 1) ok44 14 rfl rfl rfl ?_
    refine r_iand ok44 15 rfl rfl ?_
    refine r_if_eq ok44 16 rfl rfl (fun c2 => ?_) (fun c2 => ?_)
    · have h2 := h1.1 c2
      refine r_iinc (v := x2 + 1) ok44 41 rfl rfl rfl rfl ?_
      refine r_goto ok44 42 rfl rfl ?_
      exact h2
    · have h2 := h1.2 c2
      refine r_aload_n ok44 17 rfl rfl rfl ?_
      refine r_getF ok44 18 rfl rfl rfl rfl ?_
      refine r_iload_n ok44 19 rfl rfl rfl ?_
      obtain ⟨c3, h3⟩ := h2
      refine r_iald ok44 20 rfl rfl rfl c3 ?_
      refine r_if_le ok44 21 rfl rfl (fun c4 => ?_) (fun c4 => ?_)
      · have h4 := h3.1 c4
        refine r_iinc (v := x2 + 1) ok44 41 rfl rfl rfl rfl ?_
        refine r_goto ok44 42 rfl rfl ?_
        exact h4
      · have h4 := h3.2 c4
        refine r_aload_n ok44 22 rfl rfl rfl ?_
        refine r_getF ok44 23 rfl rfl rfl rfl ?_
        refine r_iload_n ok44 24 rfl rfl rfl ?_
        refine r_iload_n ok44 25 rfl rfl rfl ?_
        obtain ⟨c5, h5⟩ := h4
        refine r_iast ok44 26 rfl rfl rfl c5 ?_
        refine r_iinc (v := x1 + 1) ok44 27 rfl rfl rfl rfl ?_
        refine r_aload_n ok44 28 rfl rfl rfl ?_
        refine r_getF ok44 29 rfl rfl rfl rfl ?_
        refine r_iload_n ok44 30 rfl rfl rfl ?_
        refine r_iconst (v := (-1)) ok44 31 rfl rfl rfl ?_
        obtain ⟨c6, h6⟩ := h5
        refine r_iast ok44 32 rfl rfl rfl c6 ?_
        refine r_aload_n ok44 33 rfl rfl rfl ?_
        refine r_dup ok44 34 rfl rfl rfl ?_
        refine r_getI ok44 35 rfl rfl rfl rfl ?_
        refine r_iconst (v := 1) ok44 36 rfl rfl rfl ?_
        refine r_iload_n ok44 37 rfl rfl rfl ?_
        refine r_ishl ok44 38 rfl rfl ?_
        refine r_ior ok44 39 rfl rfl ?_
        refine r_putI ok44 40 rfl rfl rfl rfl ?_
        refine r_iinc (v := x2 + 1) ok44 41 rfl rfl rfl rfl ?_
        refine r_goto ok44 42 rfl rfl ?_
        exact h6

theorem K44 {Θ : Th} {d : Nat} {σ : Mem} {Q : Po} (h : G Θ d 44 0 [some (.ref 86), none, none] [] σ Q) : Cm Θ d 44 [.ref 86] σ Q :=
  C_of_G okM44 (Nat.le_of_ble_eq_true rfl) rfl h

-- 45: LikeYears$Cut.queuePayersOf(II)I
set_option maxRecDepth 100000 in
set_option maxHeartbeats 4000000 in
theorem B45_0 {Θ : Th} {d : Nat} {σ : Mem} {Q : Po} {x1 : Int32} {x2 : Int32} 
    (h : G Θ d 45 5 [some (.ref 86), some (.int x1), none, some (.int x2), some (.int 0), none] [] σ Q) :
    G Θ d 45 0 [some (.ref 86), some (.int x1), some (.int x2), none, none, none] [] σ Q := by
  refine r_iload_n ok45 0 rfl rfl rfl ?_
  refine r_istore_n ok45 1 rfl rfl ?_
  refine r_iconst (v := 0) ok45 2 rfl rfl rfl ?_
  refine r_istore ok45 3 rfl rfl ?_
  exact G.weak (L' := [some (.ref 86), some (.int x1), none, some (.int x2), some (.int 0), none]) ⟨rfl, ⟨rfl, ⟨rfl, ⟨rfl, trivial⟩⟩⟩⟩ h

set_option maxRecDepth 100000 in
set_option maxHeartbeats 4000000 in
theorem B45_5 {Θ : Th} {d : Nat} {σ : Mem} {Q : Po} {x1 : Int32} {x3 : Int32} {x4 : Int32} 
    (h : ((16 ≤ x4 → Q (some (.int x3)) σ) ∧ (¬ 16 ≤ x4 → (((((σ.1 86 6) >>> (x4 &&& 31)) &&& 1) = 0 → G Θ d 45 5 [some (.ref 86), some (.int x1), none, some (.int x3), some (.int (x4 + 1)), none] [] σ Q) ∧ (¬ (((σ.1 86 6) >>> (x4 &&& 31)) &&& 1) = 0 → ((¬ (((σ.1 86 8) >>> (x4 &&& 31)) &&& 1) = 0 → G Θ d 45 5 [some (.ref 86), some (.int x1), none, some (.int x3), some (.int (x4 + 1)), none] [] σ Q) ∧ ((((σ.1 86 8) >>> (x4 &&& 31)) &&& 1) = 0 → (vp_in ((x4 * 16) + x1) 256 ∧ (((σ.1 89 ((x4 * 16) + x1).toNatClampNeg) ≤ 0 → G Θ d 45 5 [some (.ref 86), some (.int x1), none, some (.int x3), some (.int (x4 + 1)), none] [] σ Q) ∧ (¬ (σ.1 89 ((x4 * 16) + x1).toNatClampNeg) ≤ 0 → ((16 ≤ x3 → G Θ d 45 5 [some (.ref 86), some (.int x1), none, some (.int x3), some (.int (x4 + 1)), none] [] σ Q) ∧ (¬ 16 ≤ x3 → (vp_in x3 16 ∧ (vp_in x4 16 ∧ G Θ d 45 5 [some (.ref 86), some (.int x1), none, some (.int (x3 + 1)), some (.int (x4 + 1)), none] [] (sI (sI (sI σ 91 (x3.toNatClampNeg) x4) 90 (x4.toNatClampNeg) x1) 86 8 (((sI (sI σ 91 (x3.toNatClampNeg) x4) 90 (x4.toNatClampNeg) x1).1 86 8) ||| ((1 : Int32) <<< (x4 &&& 31)))) Q)))))))))))))) :
    G Θ d 45 5 [some (.ref 86), some (.int x1), none, some (.int x3), some (.int x4), none] [] σ Q := by
  refine r_iload ok45 4 rfl rfl rfl ?_
  refine r_bipush (v := 16) ok45 5 rfl rfl rfl ?_
  refine r_icmp_ge ok45 6 rfl rfl (fun c1 => ?_) (fun c1 => ?_)
  · have h1 := h.1 c1
    refine r_iload_n ok45 60 rfl rfl rfl ?_
    exact r_iret ok45 61 rfl rfl rfl h1
  · have h1 := h.2 c1
    refine r_aload_n ok45 7 rfl rfl rfl ?_
    refine r_getI ok45 8 rfl rfl rfl rfl ?_
    refine r_iload ok45 9 rfl rfl rfl ?_
    refine r_ishr ok45 10 rfl rfl ?_
    refine r_iconst (v := 1) ok45 11 rfl rfl rfl ?_
    refine r_iand ok45 12 rfl rfl ?_
    refine r_if_eq ok45 13 rfl rfl (fun c2 => ?_) (fun c2 => ?_)
    · have h2 := h1.1 c2
      refine r_iconst (v := 0) ok45 23 rfl rfl rfl ?_
      refine r_istore ok45 24 rfl rfl ?_
      refine r_iload ok45 25 rfl rfl rfl ?_
      refine r_if_eq ok45 26 rfl rfl (fun _ => ?_) (fun c3 => absurd c3 (by decide))
      refine r_iinc (v := x4 + 1) ok45 58 rfl rfl rfl rfl ?_
      refine r_goto ok45 59 rfl rfl ?_
      exact G.weak (L' := [some (.ref 86), some (.int x1), none, some (.int x3), some (.int (x4 + 1)), none]) ⟨rfl, ⟨rfl, ⟨rfl, ⟨rfl, trivial⟩⟩⟩⟩ h2
    · have h2 := h1.2 c2
      refine r_aload_n ok45 14 rfl rfl rfl ?_
      refine r_getI ok45 15 rfl rfl rfl rfl ?_
      refine r_iload ok45 16 rfl rfl rfl ?_
      refine r_ishr ok45 17 rfl rfl ?_
      refine r_iconst (v := 1) ok45 18 rfl rfl rfl ?_
      refine r_iand ok45 19 rfl rfl ?_
      refine r_if_ne ok45 20 rfl rfl (fun c4 => ?_) (fun c4 => ?_)
      · have h4 := h2.1 c4
        refine r_iconst (v := 0) ok45 23 rfl rfl rfl ?_
        refine r_istore ok45 24 rfl rfl ?_
        refine r_iload ok45 25 rfl rfl rfl ?_
        refine r_if_eq ok45 26 rfl rfl (fun _ => ?_) (fun c5 => absurd c5 (by decide))
        refine r_iinc (v := x4 + 1) ok45 58 rfl rfl rfl rfl ?_
        refine r_goto ok45 59 rfl rfl ?_
        exact G.weak (L' := [some (.ref 86), some (.int x1), none, some (.int x3), some (.int (x4 + 1)), none]) ⟨rfl, ⟨rfl, ⟨rfl, ⟨rfl, trivial⟩⟩⟩⟩ h4
      · have h4 := h2.2 c4
        refine r_iconst (v := 1) ok45 21 rfl rfl rfl ?_
        refine r_goto ok45 22 rfl rfl ?_
        refine r_istore ok45 24 rfl rfl ?_
        refine r_iload ok45 25 rfl rfl rfl ?_
        refine r_if_eq ok45 26 rfl rfl (fun c6 => absurd c6 (by decide)) (fun _ => ?_)
        refine r_aload_n ok45 27 rfl rfl rfl ?_
        refine r_getF ok45 28 rfl rfl rfl rfl ?_
        refine r_iload ok45 29 rfl rfl rfl ?_
        refine r_bipush (v := 16) ok45 30 rfl rfl rfl ?_
        refine r_imul ok45 31 rfl rfl ?_
        refine r_iload_n ok45 32 rfl rfl rfl ?_
        refine r_iadd ok45 33 rfl rfl ?_
        obtain ⟨c7, h7⟩ := h4
        refine r_iald ok45 34 rfl rfl rfl c7 ?_
        refine r_if_le ok45 35 rfl rfl (fun c8 => ?_) (fun c8 => ?_)
        · have h8 := h7.1 c8
          refine r_iinc (v := x4 + 1) ok45 58 rfl rfl rfl rfl ?_
          refine r_goto ok45 59 rfl rfl ?_
          exact G.weak (L' := [some (.ref 86), some (.int x1), none, some (.int x3), some (.int (x4 + 1)), none]) ⟨rfl, ⟨rfl, ⟨rfl, ⟨rfl, trivial⟩⟩⟩⟩ h8
        · have h8 := h7.2 c8
          refine r_iload_n ok45 36 rfl rfl rfl ?_
          refine r_bipush (v := 16) ok45 37 rfl rfl rfl ?_
          refine r_icmp_ge ok45 38 rfl rfl (fun c9 => ?_) (fun c9 => ?_)
          · have h9 := h8.1 c9
            refine r_iinc (v := x4 + 1) ok45 58 rfl rfl rfl rfl ?_
            refine r_goto ok45 59 rfl rfl ?_
            exact G.weak (L' := [some (.ref 86), some (.int x1), none, some (.int x3), some (.int (x4 + 1)), none]) ⟨rfl, ⟨rfl, ⟨rfl, ⟨rfl, trivial⟩⟩⟩⟩ h9
          · have h9 := h8.2 c9
            refine r_aload_n ok45 39 rfl rfl rfl ?_
            refine r_getF ok45 40 rfl rfl rfl rfl ?_
            refine r_iload_n ok45 41 rfl rfl rfl ?_
            refine r_iload ok45 42 rfl rfl rfl ?_
            obtain ⟨c10, h10⟩ := h9
            refine r_iast ok45 43 rfl rfl rfl c10 ?_
            refine r_iinc (v := x3 + 1) ok45 44 rfl rfl rfl rfl ?_
            refine r_aload_n ok45 45 rfl rfl rfl ?_
            refine r_getF ok45 46 rfl rfl rfl rfl ?_
            refine r_iload ok45 47 rfl rfl rfl ?_
            refine r_iload_n ok45 48 rfl rfl rfl ?_
            obtain ⟨c11, h11⟩ := h10
            refine r_iast ok45 49 rfl rfl rfl c11 ?_
            refine r_aload_n ok45 50 rfl rfl rfl ?_
            refine r_dup ok45 51 rfl rfl rfl ?_
            refine r_getI ok45 52 rfl rfl rfl rfl ?_
            refine r_iconst (v := 1) ok45 53 rfl rfl rfl ?_
            refine r_iload ok45 54 rfl rfl rfl ?_
            refine r_ishl ok45 55 rfl rfl ?_
            refine r_ior ok45 56 rfl rfl ?_
            refine r_putI ok45 57 rfl rfl rfl rfl ?_
            refine r_iinc (v := x4 + 1) ok45 58 rfl rfl rfl rfl ?_
            refine r_goto ok45 59 rfl rfl ?_
            exact G.weak (L' := [some (.ref 86), some (.int x1), none, some (.int (x3 + 1)), some (.int (x4 + 1)), none]) ⟨rfl, ⟨rfl, ⟨rfl, ⟨rfl, trivial⟩⟩⟩⟩ h11

theorem K45 {Θ : Th} {d : Nat} {σ : Mem} {Q : Po} {x1 : Int32} {x2 : Int32} (h : G Θ d 45 0 [some (.ref 86), some (.int x1), some (.int x2), none, none, none] [] σ Q) : Cm Θ d 45 [.ref 86, .int x1, .int x2] σ Q :=
  C_of_G okM45 (Nat.le_of_ble_eq_true rfl) rfl h

-- 46: LikeYears$Cut.payAround(I)V
set_option maxRecDepth 100000 in
set_option maxHeartbeats 4000000 in
theorem B46_0 {Θ : Th} {d : Nat} {σ : Mem} {Q : Po} {x1 : Int32} 
    (h : (vp_in x1 16 ∧ (vp_in x1 16 ∧ G Θ (d + 1) 46 17 [some (.ref 86), some (.int x1), some (.int (σ.1 88 x1.toNatClampNeg)), some (.int (σ.1 90 x1.toNatClampNeg)), some (.int 0), none] [] σ Q))) :
    G Θ (d + 1) 46 0 [some (.ref 86), some (.int x1), none, none, none, none] [] σ Q := by
  refine r_aload_n ok46 0 rfl rfl rfl ?_
  refine r_getF ok46 1 rfl rfl rfl rfl ?_
  refine r_iload_n ok46 2 rfl rfl rfl ?_
  obtain ⟨c1, h1⟩ := h
  refine r_iald ok46 3 rfl rfl rfl c1 ?_
  refine r_istore_n ok46 4 rfl rfl ?_
  refine r_aload_n ok46 5 rfl rfl rfl ?_
  refine r_getF ok46 6 rfl rfl rfl rfl ?_
  refine r_iload_n ok46 7 rfl rfl rfl ?_
  obtain ⟨c2, h2⟩ := h1
  refine r_iald ok46 8 rfl rfl rfl c2 ?_
  refine r_istore_n ok46 9 rfl rfl ?_
  refine r_iconst (v := 0) ok46 10 rfl rfl rfl ?_
  refine r_istore ok46 11 rfl rfl ?_
  exact h2

set_option maxRecDepth 100000 in
set_option maxHeartbeats 4000000 in
theorem B46_17 {Θ : Th} {d : Nat} {σ : Mem} {Q : Po} {x1 : Int32} {x2 : Int32} {x3 : Int32} {x4 : Int32} 
    (h : ((16 ≤ x4 → G Θ (d + 1) 46 72 [some (.ref 86), some (.int x1), some (.int x2), some (.int x3), none, none] [] σ Q) ∧ (¬ 16 ≤ x4 → (vp_in x3 16 ∧ (((σ.1 90 x3.toNatClampNeg) < 0 → G Θ (d + 1) 46 72 [some (.ref 86), some (.int x1), some (.int x2), some (.int x3), none, none] [] σ Q) ∧ (¬ (σ.1 90 x3.toNatClampNeg) < 0 → (vp_in x3 16 ∧ (vp_in ((x3 * 16) + (σ.1 90 x3.toNatClampNeg)) 256 ∧ (vp_in x3 16 ∧ (vp_in (σ.1 90 x3.toNatClampNeg) 16 ∧ G Θ (d + 1) 46 17 [some (.ref 86), some (.int x1), some (.int (if (σ.1 89 ((x3 * 16) + (σ.1 90 x3.toNatClampNeg)).toNatClampNeg) < x2 then σ.1 89 ((x3 * 16) + (σ.1 90 x3.toNatClampNeg)).toNatClampNeg else x2)), some (.int (σ.1 90 (σ.1 90 x3.toNatClampNeg).toNatClampNeg)), some (.int (x4 + 1)), none] [] σ Q)))))))))) :
    G Θ (d + 1) 46 17 [some (.ref 86), some (.int x1), some (.int x2), some (.int x3), some (.int x4), none] [] σ Q := by
  refine r_iload ok46 12 rfl rfl rfl ?_
  refine r_bipush (v := 16) ok46 13 rfl rfl rfl ?_
  refine r_icmp_ge ok46 14 rfl rfl (fun c1 => ?_) (fun c1 => ?_)
  · have h1 := h.1 c1
    exact G.weak (L' := [some (.ref 86), some (.int x1), some (.int x2), some (.int x3), none, none]) ⟨rfl, ⟨rfl, ⟨rfl, ⟨rfl, trivial⟩⟩⟩⟩ h1
  · have h1 := h.2 c1
    refine r_aload_n ok46 15 rfl rfl rfl ?_
    refine r_getF ok46 16 rfl rfl rfl rfl ?_
    refine r_iload_n ok46 17 rfl rfl rfl ?_
    obtain ⟨c2, h2⟩ := h1
    refine r_iald ok46 18 rfl rfl rfl c2 ?_
    refine r_if_lt ok46 19 rfl rfl (fun c3 => ?_) (fun c3 => ?_)
    · have h3 := h2.1 c3
      exact G.weak (L' := [some (.ref 86), some (.int x1), some (.int x2), some (.int x3), none, none]) ⟨rfl, ⟨rfl, ⟨rfl, ⟨rfl, trivial⟩⟩⟩⟩ h3
    · have h3 := h2.2 c3
      refine r_iload_n ok46 20 rfl rfl rfl ?_
      refine r_aload_n ok46 21 rfl rfl rfl ?_
      refine r_getF ok46 22 rfl rfl rfl rfl ?_
      refine r_iload_n ok46 23 rfl rfl rfl ?_
      refine r_bipush (v := 16) ok46 24 rfl rfl rfl ?_
      refine r_imul ok46 25 rfl rfl ?_
      refine r_aload_n ok46 26 rfl rfl rfl ?_
      refine r_getF ok46 27 rfl rfl rfl rfl ?_
      refine r_iload_n ok46 28 rfl rfl rfl ?_
      obtain ⟨c4, h4⟩ := h3
      refine r_iald ok46 29 rfl rfl rfl c4 ?_
      refine r_iadd ok46 30 rfl rfl ?_
      obtain ⟨c5, h5⟩ := h4
      refine r_iald ok46 31 rfl rfl rfl c5 ?_
      refine r_mmin ok46 32 rfl rfl rfl (Nat.le_of_ble_eq_true rfl) w_min (Nat.le_of_ble_eq_true rfl) ?_
      refine r_istore_n ok46 33 rfl rfl ?_
      refine r_aload_n ok46 34 rfl rfl rfl ?_
      refine r_getF ok46 35 rfl rfl rfl rfl ?_
      refine r_aload_n ok46 36 rfl rfl rfl ?_
      refine r_getF ok46 37 rfl rfl rfl rfl ?_
      refine r_iload_n ok46 38 rfl rfl rfl ?_
      obtain ⟨c6, h6⟩ := h5
      refine r_iald ok46 39 rfl rfl rfl c6 ?_
      obtain ⟨c7, h7⟩ := h6
      refine r_iald ok46 40 rfl rfl rfl c7 ?_
      refine r_istore_n ok46 41 rfl rfl ?_
      refine r_iinc (v := x4 + 1) ok46 42 rfl rfl rfl rfl ?_
      refine r_goto ok46 43 rfl rfl ?_
      exact h7

set_option maxRecDepth 100000 in
set_option maxHeartbeats 4000000 in
theorem B46_72 {Θ : Th} {d : Nat} {σ : Mem} {Q : Po} {x1 : Int32} {x2 : Int32} {x3 : Int32} 
    (h : (vp_in x3 16 ∧ (vp_in x3 16 ∧ (vp_in x3 16 ∧ (vp_in x1 16 ∧ (vp_in x1 16 ∧ G Θ (d + 1) 46 109 [some (.ref 86), none, some (.int (if (σ.1 88 x3.toNatClampNeg) < x2 then σ.1 88 x3.toNatClampNeg else x2)), none, some (.int x1), some (.int 0)] [] (sI (sI σ 88 (x3.toNatClampNeg) ((σ.1 88 x3.toNatClampNeg) - (if (σ.1 88 x3.toNatClampNeg) < x2 then σ.1 88 x3.toNatClampNeg else x2))) 88 (x1.toNatClampNeg) (((sI σ 88 (x3.toNatClampNeg) ((σ.1 88 x3.toNatClampNeg) - (if (σ.1 88 x3.toNatClampNeg) < x2 then σ.1 88 x3.toNatClampNeg else x2))).1 88 x1.toNatClampNeg) - (if (σ.1 88 x3.toNatClampNeg) < x2 then σ.1 88 x3.toNatClampNeg else x2))) Q)))))) :
    G Θ (d + 1) 46 72 [some (.ref 86), some (.int x1), some (.int x2), some (.int x3), none, none] [] σ Q := by
  refine r_iload_n ok46 44 rfl rfl rfl ?_
  refine r_aload_n ok46 45 rfl rfl rfl ?_
  refine r_getF ok46 46 rfl rfl rfl rfl ?_
  refine r_iload_n ok46 47 rfl rfl rfl ?_
  obtain ⟨c1, h1⟩ := h
  refine r_iald ok46 48 rfl rfl rfl c1 ?_
  refine r_mmin ok46 49 rfl rfl rfl (Nat.le_of_ble_eq_true rfl) w_min (Nat.le_of_ble_eq_true rfl) ?_
  refine r_istore_n ok46 50 rfl rfl ?_
  refine r_aload_n ok46 51 rfl rfl rfl ?_
  refine r_getF ok46 52 rfl rfl rfl rfl ?_
  refine r_iload_n ok46 53 rfl rfl rfl ?_
  refine r_dup2a ok46 54 rfl rfl rfl rfl ?_
  obtain ⟨c2, h2⟩ := h1
  refine r_iald ok46 55 rfl rfl rfl c2 ?_
  refine r_iload_n ok46 56 rfl rfl rfl ?_
  refine r_isub ok46 57 rfl rfl ?_
  obtain ⟨c3, h3⟩ := h2
  refine r_iast ok46 58 rfl rfl rfl c3 ?_
  refine r_aload_n ok46 59 rfl rfl rfl ?_
  refine r_getF ok46 60 rfl rfl rfl rfl ?_
  refine r_iload_n ok46 61 rfl rfl rfl ?_
  refine r_dup2a ok46 62 rfl rfl rfl rfl ?_
  obtain ⟨c4, h4⟩ := h3
  refine r_iald ok46 63 rfl rfl rfl c4 ?_
  refine r_iload_n ok46 64 rfl rfl rfl ?_
  refine r_isub ok46 65 rfl rfl ?_
  obtain ⟨c5, h5⟩ := h4
  refine r_iast ok46 66 rfl rfl rfl c5 ?_
  refine r_iload_n ok46 67 rfl rfl rfl ?_
  refine r_istore ok46 68 rfl rfl ?_
  refine r_iconst (v := 0) ok46 69 rfl rfl rfl ?_
  refine r_istore ok46 70 rfl rfl ?_
  exact G.weak (L' := [some (.ref 86), none, some (.int (if (σ.1 88 x3.toNatClampNeg) < x2 then σ.1 88 x3.toNatClampNeg else x2)), none, some (.int x1), some (.int 0)]) ⟨rfl, ⟨rfl, ⟨rfl, ⟨rfl, trivial⟩⟩⟩⟩ h5

set_option maxRecDepth 100000 in
set_option maxHeartbeats 4000000 in
theorem B46_109 {Θ : Th} {d : Nat} {σ : Mem} {Q : Po} {x2 : Int32} {x4 : Int32} {x5 : Int32} 
    (h : ((16 ≤ x5 → G Θ (d + 1) 46 180 [none, none, none, none, none, none] [] σ Q) ∧ (¬ 16 ≤ x5 → ((x4 < 0 → G Θ (d + 1) 46 180 [none, none, none, none, none, none] [] σ Q) ∧ (¬ x4 < 0 → (vp_in x4 16 ∧ (vp_in (((σ.1 90 x4.toNatClampNeg) * 16) + x4) 256 ∧ (vp_in (((σ.1 90 x4.toNatClampNeg) * 16) + x4) 256 ∧ (vp_in (σ.1 90 x4.toNatClampNeg) 16 ∧ ((((sI σ 89 ((((σ.1 90 x4.toNatClampNeg) * 16) + x4).toNatClampNeg) ((σ.1 89 (((σ.1 90 x4.toNatClampNeg) * 16) + x4).toNatClampNeg) + x2)).1 90 (σ.1 90 x4.toNatClampNeg).toNatClampNeg) < 0 → G Θ (d + 1) 46 174 [some (.ref 86), none, some (.int x2), none, some (.int ((sI σ 89 ((((σ.1 90 x4.toNatClampNeg) * 16) + x4).toNatClampNeg) ((σ.1 89 (((σ.1 90 x4.toNatClampNeg) * 16) + x4).toNatClampNeg) + x2)).1 90 (σ.1 90 x4.toNatClampNeg).toNatClampNeg)), some (.int x5)] [] (sI σ 89 ((((σ.1 90 x4.toNatClampNeg) * 16) + x4).toNatClampNeg) ((σ.1 89 (((σ.1 90 x4.toNatClampNeg) * 16) + x4).toNatClampNeg) + x2)) Q) ∧ (¬ ((sI σ 89 ((((σ.1 90 x4.toNatClampNeg) * 16) + x4).toNatClampNeg) ((σ.1 89 (((σ.1 90 x4.toNatClampNeg) * 16) + x4).toNatClampNeg) + x2)).1 90 (σ.1 90 x4.toNatClampNeg).toNatClampNeg) < 0 → (vp_in (((σ.1 90 x4.toNatClampNeg) * 16) + ((sI σ 89 ((((σ.1 90 x4.toNatClampNeg) * 16) + x4).toNatClampNeg) ((σ.1 89 (((σ.1 90 x4.toNatClampNeg) * 16) + x4).toNatClampNeg) + x2)).1 90 (σ.1 90 x4.toNatClampNeg).toNatClampNeg)) 256 ∧ (vp_in (((σ.1 90 x4.toNatClampNeg) * 16) + ((sI σ 89 ((((σ.1 90 x4.toNatClampNeg) * 16) + x4).toNatClampNeg) ((σ.1 89 (((σ.1 90 x4.toNatClampNeg) * 16) + x4).toNatClampNeg) + x2)).1 90 (σ.1 90 x4.toNatClampNeg).toNatClampNeg)) 256 ∧ G Θ (d + 1) 46 174 [some (.ref 86), none, some (.int x2), none, some (.int ((sI σ 89 ((((σ.1 90 x4.toNatClampNeg) * 16) + x4).toNatClampNeg) ((σ.1 89 (((σ.1 90 x4.toNatClampNeg) * 16) + x4).toNatClampNeg) + x2)).1 90 (σ.1 90 x4.toNatClampNeg).toNatClampNeg)), some (.int x5)] [] (sI (sI σ 89 ((((σ.1 90 x4.toNatClampNeg) * 16) + x4).toNatClampNeg) ((σ.1 89 (((σ.1 90 x4.toNatClampNeg) * 16) + x4).toNatClampNeg) + x2)) 89 ((((σ.1 90 x4.toNatClampNeg) * 16) + ((sI σ 89 ((((σ.1 90 x4.toNatClampNeg) * 16) + x4).toNatClampNeg) ((σ.1 89 (((σ.1 90 x4.toNatClampNeg) * 16) + x4).toNatClampNeg) + x2)).1 90 (σ.1 90 x4.toNatClampNeg).toNatClampNeg)).toNatClampNeg) (((sI σ 89 ((((σ.1 90 x4.toNatClampNeg) * 16) + x4).toNatClampNeg) ((σ.1 89 (((σ.1 90 x4.toNatClampNeg) * 16) + x4).toNatClampNeg) + x2)).1 89 (((σ.1 90 x4.toNatClampNeg) * 16) + ((sI σ 89 ((((σ.1 90 x4.toNatClampNeg) * 16) + x4).toNatClampNeg) ((σ.1 89 (((σ.1 90 x4.toNatClampNeg) * 16) + x4).toNatClampNeg) + x2)).1 90 (σ.1 90 x4.toNatClampNeg).toNatClampNeg)).toNatClampNeg) - x2)) Q))))))))))))) :
    G Θ (d + 1) 46 109 [some (.ref 86), none, some (.int x2), none, some (.int x4), some (.int x5)] [] σ Q := by
  refine r_iload ok46 71 rfl rfl rfl ?_
  refine r_bipush (v := 16) ok46 72 rfl rfl rfl ?_
  refine r_icmp_ge ok46 73 rfl rfl (fun c1 => ?_) (fun c1 => ?_)
  · have h1 := h.1 c1
    exact G.weak (L' := [none, none, none, none, none, none]) trivial h1
  · have h1 := h.2 c1
    refine r_iload ok46 74 rfl rfl rfl ?_
    refine r_if_lt ok46 75 rfl rfl (fun c2 => ?_) (fun c2 => ?_)
    · have h2 := h1.1 c2
      exact G.weak (L' := [none, none, none, none, none, none]) trivial h2
    · have h2 := h1.2 c2
      refine r_aload_n ok46 76 rfl rfl rfl ?_
      refine r_getF ok46 77 rfl rfl rfl rfl ?_
      refine r_iload ok46 78 rfl rfl rfl ?_
      obtain ⟨c3, h3⟩ := h2
      refine r_iald ok46 79 rfl rfl rfl c3 ?_
      refine r_istore_n ok46 80 rfl rfl ?_
      refine r_aload_n ok46 81 rfl rfl rfl ?_
      refine r_getF ok46 82 rfl rfl rfl rfl ?_
      refine r_iload_n ok46 83 rfl rfl rfl ?_
      refine r_bipush (v := 16) ok46 84 rfl rfl rfl ?_
      refine r_imul ok46 85 rfl rfl ?_
      refine r_iload ok46 86 rfl rfl rfl ?_
      refine r_iadd ok46 87 rfl rfl ?_
      refine r_dup2a ok46 88 rfl rfl rfl rfl ?_
      obtain ⟨c4, h4⟩ := h3
      refine r_iald ok46 89 rfl rfl rfl c4 ?_
      refine r_iload_n ok46 90 rfl rfl rfl ?_
      refine r_iadd ok46 91 rfl rfl ?_
      obtain ⟨c5, h5⟩ := h4
      refine r_iast ok46 92 rfl rfl rfl c5 ?_
      refine r_aload_n ok46 93 rfl rfl rfl ?_
      refine r_getF ok46 94 rfl rfl rfl rfl ?_
      refine r_iload_n ok46 95 rfl rfl rfl ?_
      obtain ⟨c6, h6⟩ := h5
      refine r_iald ok46 96 rfl rfl rfl c6 ?_
      refine r_istore ok46 97 rfl rfl ?_
      refine r_iload ok46 98 rfl rfl rfl ?_
      refine r_if_lt ok46 99 rfl rfl (fun c7 => ?_) (fun c7 => ?_)
      · have h7 := h6.1 c7
        exact G.weak (L' := [some (.ref 86), none, some (.int x2), none, some (.int ((sI σ 89 ((((σ.1 90 x4.toNatClampNeg) * 16) + x4).toNatClampNeg) ((σ.1 89 (((σ.1 90 x4.toNatClampNeg) * 16) + x4).toNatClampNeg) + x2)).1 90 (σ.1 90 x4.toNatClampNeg).toNatClampNeg)), some (.int x5)]) ⟨rfl, ⟨rfl, ⟨rfl, ⟨rfl, trivial⟩⟩⟩⟩ h7
      · have h7 := h6.2 c7
        refine r_aload_n ok46 100 rfl rfl rfl ?_
        refine r_getF ok46 101 rfl rfl rfl rfl ?_
        refine r_iload_n ok46 102 rfl rfl rfl ?_
        refine r_bipush (v := 16) ok46 103 rfl rfl rfl ?_
        refine r_imul ok46 104 rfl rfl ?_
        refine r_iload ok46 105 rfl rfl rfl ?_
        refine r_iadd ok46 106 rfl rfl ?_
        refine r_dup2a ok46 107 rfl rfl rfl rfl ?_
        obtain ⟨c8, h8⟩ := h7
        refine r_iald ok46 108 rfl rfl rfl c8 ?_
        refine r_iload_n ok46 109 rfl rfl rfl ?_
        refine r_isub ok46 110 rfl rfl ?_
        obtain ⟨c9, h9⟩ := h8
        refine r_iast ok46 111 rfl rfl rfl c9 ?_
        exact G.weak (L' := [some (.ref 86), none, some (.int x2), none, some (.int ((sI σ 89 ((((σ.1 90 x4.toNatClampNeg) * 16) + x4).toNatClampNeg) ((σ.1 89 (((σ.1 90 x4.toNatClampNeg) * 16) + x4).toNatClampNeg) + x2)).1 90 (σ.1 90 x4.toNatClampNeg).toNatClampNeg)), some (.int x5)]) ⟨rfl, ⟨rfl, ⟨rfl, ⟨rfl, trivial⟩⟩⟩⟩ h9

set_option maxRecDepth 100000 in
set_option maxHeartbeats 4000000 in
theorem B46_180 {Θ : Th} {d : Nat} {σ : Mem} {Q : Po} 
    (h : Q none σ) :
    G Θ (d + 1) 46 180 [none, none, none, none, none, none] [] σ Q := by
  exact r_ret ok46 114 rfl rfl rfl h

set_option maxRecDepth 100000 in
set_option maxHeartbeats 4000000 in
theorem B46_174 {Θ : Th} {d : Nat} {σ : Mem} {Q : Po} {x2 : Int32} {x4 : Int32} {x5 : Int32} 
    (h : G Θ (d + 1) 46 109 [some (.ref 86), none, some (.int x2), none, some (.int x4), some (.int (x5 + 1))] [] σ Q) :
    G Θ (d + 1) 46 174 [some (.ref 86), none, some (.int x2), none, some (.int x4), some (.int x5)] [] σ Q := by
  refine r_iinc (v := x5 + 1) ok46 112 rfl rfl rfl rfl ?_
  refine r_goto ok46 113 rfl rfl ?_
  exact h

theorem K46 {Θ : Th} {d : Nat} {σ : Mem} {Q : Po} {x1 : Int32} (h : G Θ (d + 1) 46 0 [some (.ref 86), some (.int x1), none, none, none, none] [] σ Q) : Cm Θ (d + 1) 46 [.ref 86, .int x1] σ Q :=
  C_of_G okM46 (Nat.le_of_ble_eq_true rfl) rfl h
