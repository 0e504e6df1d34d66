-- 52: LikeYears$Laws.read(LLikeYears$Book;)Z
set_option maxRecDepth 100000 in
set_option maxHeartbeats 4000000 in
theorem B52_0 {Θ : Th} {d : Nat} {σ : Mem} {Q : Po} {o : Nat} {r1 : Nat} (ho : (shq o).1 = 6) (hp1 : (shq r1).1 = 1)
    (h : (r1 ≠ 0 ∧ Cv Θ d 101 [.ref 1, .int 1] (sI (sI (sI (sR σ o 1 r1) o 2 0) o 8 0) o 9 0) (fun σ2 => G Θ (d + 1) 52 30 [some (.ref o), none, some (.int 0)] [] σ2 Q))) :
    G Θ (d + 1) 52 0 [some (.ref o), some (.ref r1), none] [] σ Q := by
  refine r_aload_n ok52 0 rfl rfl rfl ?_
  refine r_aload_n ok52 1 rfl rfl rfl ?_
  obtain ⟨c1, h1⟩ := h
  refine r_putR ok52 2 rfl rfl ho rfl c1 ?_
  refine r_aload_n ok52 3 rfl rfl rfl ?_
  refine r_iconst (v := 0) ok52 4 rfl rfl rfl ?_
  refine r_putI ok52 5 rfl rfl ho rfl ?_
  refine r_aload_n ok52 6 rfl rfl rfl ?_
  refine r_iconst (v := 0) ok52 7 rfl rfl rfl ?_
  refine r_putI ok52 8 rfl rfl ho rfl ?_
  refine r_aload_n ok52 9 rfl rfl rfl ?_
  refine r_iconst (v := 0) ok52 10 rfl rfl rfl ?_
  refine r_putI ok52 11 rfl rfl ho rfl ?_
  refine r_aload_n ok52 12 rfl rfl rfl ?_
  refine r_getA ok52 13 rfl rfl ho rfl ?_
  refine r_iconst (v := 1) ok52 14 rfl rfl rfl ?_
  refine r_invVv (as := [.int 1]) (S := []) ok52 15 rfl rfl mf101 rfl rfl (Nat.le_of_ble_eq_true rfl) rfl h1 (fun σ2 h2 => ?_)
  refine r_iconst (v := 0) ok52 16 rfl rfl rfl ?_
  refine r_istore_n ok52 17 rfl rfl ?_
  exact G.weak (L' := [some (.ref o), none, some (.int 0)]) ⟨rfl, ⟨rfl, trivial⟩⟩ h2

set_option maxRecDepth 100000 in
set_option maxHeartbeats 4000000 in
theorem B52_30 {Θ : Th} {d : Nat} {σ : Mem} {Q : Po} {o : Nat} {x2 : Int32} (ho : (shq o).1 = 6)
    (h : ((500 < x2 → Q (some (.int 1)) σ) ∧ (¬ 500 < x2 → (((σ.1 1 3) = 0 → Q (some (.int 1)) σ) ∧ (¬ (σ.1 1 3) = 0 → Ci Θ d 53 [.ref o] σ (fun v3 σ3 => ((¬ v3 = 0 → G Θ (d + 1) 52 30 [some (.ref o), none, some (.int (x2 + 1))] [] σ3 Q) ∧ (v3 = 0 → Q (some (.int 0)) σ3)))))))) :
    G Θ (d + 1) 52 30 [some (.ref o), none, some (.int x2)] [] σ Q := by
  refine r_iload_n ok52 18 rfl rfl rfl ?_
  refine r_sipush (v := 500) ok52 19 rfl rfl rfl ?_
  refine r_icmp_gt ok52 20 rfl rfl (fun c1 => ?_) (fun c1 => ?_)
  · have h1 := h.1 c1
    refine r_iconst (v := 1) ok52 32 rfl rfl rfl ?_
    exact r_zret ok52 33 rfl rfl rfl (Or.inr rfl) h1
  · have h1 := h.2 c1
    refine r_aload_n ok52 21 rfl rfl rfl ?_
    refine r_getA ok52 22 rfl rfl ho rfl ?_
    refine r_getI ok52 23 rfl rfl rfl rfl ?_
    refine r_if_eq ok52 24 rfl rfl (fun c2 => ?_) (fun c2 => ?_)
    · have h2 := h1.1 c2
      refine r_iconst (v := 1) ok52 32 rfl rfl rfl ?_
      exact r_zret ok52 33 rfl rfl rfl (Or.inr rfl) h2
    · have h2 := h1.2 c2
      refine r_aload_n ok52 25 rfl rfl rfl ?_
      refine r_invVi (as := []) (S := []) ok52 26 rfl rfl mf53 ho rfl (Nat.le_of_ble_eq_true rfl) rfl h2 (fun v3 σ3 h3 => ?_)
      refine r_if_ne ok52 27 rfl rfl (fun c4 => ?_) (fun c4 => ?_)
      · have h4 := h3.1 c4
        refine r_iinc (v := x2 + 1) ok52 30 rfl rfl rfl rfl ?_
        refine r_goto ok52 31 rfl rfl ?_
        exact h4
      · have h4 := h3.2 c4
        refine r_iconst (v := 0) ok52 28 rfl rfl rfl ?_
        exact r_zret ok52 29 rfl rfl rfl (Or.inl rfl) h4

theorem K52 {Θ : Th} {d : Nat} {σ : Mem} {Q : Po} {o : Nat} {r1 : Nat} (h : G Θ (d + 1) 52 0 [some (.ref o), some (.ref r1), none] [] σ Q) : Cm Θ (d + 1) 52 [.ref o, .ref r1] σ Q :=
  C_of_G okM52 (Nat.le_of_ble_eq_true rfl) rfl h

-- 53: LikeYears$Laws.readLine()Z
set_option maxRecDepth 100000 in
set_option maxHeartbeats 4000000 in
theorem B53_0 {Θ : Th} {d : Nat} {σ : Mem} {Q : Po} {o : Nat} (ho : (shq o).1 = 6)
    (h : (((σ.1 o 2) < 8 → Ci Θ d 113 [.ref 1, .long 2003330414] σ (fun v2 σ2 => ((v2 = 0 → Q (some (.int 0)) σ2) ∧ (¬ v2 = 0 → Ci Θ d 54 [.ref o, .int 0, .int 0] σ2 (fun v4 σ4 => ((¬ v4 = 0 → Ci Θ d 116 [.ref 1, .long 465557353332, .int 0, .int 240] σ4 (fun v6 σ6 => ((0 ≤ v6 → Ci Θ d 116 [.ref 1, .long 1836020596, .int v6, .int 240] σ6 (fun v8 σ8 => ((v8 < 0 → Q (some (.int 0)) σ8) ∧ (¬ v8 < 0 → Ci Θ d 114 [.ref 1, .int 59] σ8 (fun v10 σ10 => ((¬ v10 = 0 → (vp_in (σ10.1 o 2) 8 ∧ (vp_in ((sI σ10 (o + 1) ((σ10.1 o 2).toNatClampNeg) v6).1 o 2) 8 ∧ (vp_in ((sI (sI σ10 (o + 1) ((σ10.1 o 2).toNatClampNeg) v6) (o + 2) (((sI σ10 (o + 1) ((σ10.1 o 2).toNatClampNeg) v6).1 o 2).toNatClampNeg) v8).1 o 2) 8 ∧ Q (some (.int 1)) (sI (sI (sI (sI σ10 (o + 1) ((σ10.1 o 2).toNatClampNeg) v6) (o + 2) (((sI σ10 (o + 1) ((σ10.1 o 2).toNatClampNeg) v6).1 o 2).toNatClampNeg) v8) (o + 3) (((sI (sI σ10 (o + 1) ((σ10.1 o 2).toNatClampNeg) v6) (o + 2) (((sI σ10 (o + 1) ((σ10.1 o 2).toNatClampNeg) v6).1 o 2).toNatClampNeg) v8).1 o 2).toNatClampNeg) ((sI (sI σ10 (o + 1) ((σ10.1 o 2).toNatClampNeg) v6) (o + 2) (((sI σ10 (o + 1) ((σ10.1 o 2).toNatClampNeg) v6).1 o 2).toNatClampNeg) v8).1 o 8)) o 2 (((sI (sI (sI σ10 (o + 1) ((σ10.1 o 2).toNatClampNeg) v6) (o + 2) (((sI σ10 (o + 1) ((σ10.1 o 2).toNatClampNeg) v6).1 o 2).toNatClampNeg) v8) (o + 3) (((sI (sI σ10 (o + 1) ((σ10.1 o 2).toNatClampNeg) v6) (o + 2) (((sI σ10 (o + 1) ((σ10.1 o 2).toNatClampNeg) v6).1 o 2).toNatClampNeg) v8).1 o 2).toNatClampNeg) ((sI (sI σ10 (o + 1) ((σ10.1 o 2).toNatClampNeg) v6) (o + 2) (((sI σ10 (o + 1) ((σ10.1 o 2).toNatClampNeg) v6).1 o 2).toNatClampNeg) v8).1 o 8)).1 o 2) + 1)))))) ∧ (v10 = 0 → Q (some (.int 0)) σ10))))))) ∧ (¬ 0 ≤ v6 → Q (some (.int 0)) σ6)))) ∧ (v4 = 0 → Q (some (.int 0)) σ4))))))) ∧ (¬ (σ.1 o 2) < 8 → Ci Θ d 109 [.ref 1, .int 2] σ (fun v15 σ15 => ((v15 = 0 ∨ v15 = 1) ∧ Q (some (.int v15)) σ15))))) :
    G Θ (d + 1) 53 0 [some (.ref o), none, none] [] σ Q := by
  refine r_aload_n ok53 0 rfl rfl rfl ?_
  refine r_getI ok53 1 rfl rfl ho rfl ?_
  refine r_bipush (v := 8) ok53 2 rfl rfl rfl ?_
  refine r_icmp_lt ok53 3 rfl rfl (fun c1 => ?_) (fun c1 => ?_)
  · have h1 := h.1 c1
    refine r_aload_n ok53 9 rfl rfl rfl ?_
    refine r_getA ok53 10 rfl rfl ho rfl ?_
    refine r_ldc2_w (v := 2003330414) ok53 11 rfl rfl rfl ?_
    refine r_invVi (as := [.long 2003330414]) (S := []) ok53 12 rfl rfl mf113 rfl rfl (Nat.le_of_ble_eq_true rfl) rfl h1 (fun v2 σ2 h2 => ?_)
    refine r_if_eq ok53 13 rfl rfl (fun c3 => ?_) (fun c3 => ?_)
    · have h3 := h2.1 c3
      refine r_iconst (v := 0) ok53 19 rfl rfl rfl ?_
      exact r_zret ok53 20 rfl rfl rfl (Or.inl rfl) h3
    · have h3 := h2.2 c3
      refine r_aload_n ok53 14 rfl rfl rfl ?_
      refine r_iconst (v := 0) ok53 15 rfl rfl rfl ?_
      refine r_iconst (v := 0) ok53 16 rfl rfl rfl ?_
      refine r_invVi (as := [.int 0, .int 0]) (S := []) ok53 17 rfl rfl mf54 ho rfl (Nat.le_of_ble_eq_true rfl) rfl h3 (fun v4 σ4 h4 => ?_)
      refine r_if_ne ok53 18 rfl rfl (fun c5 => ?_) (fun c5 => ?_)
      · have h5 := h4.1 c5
        refine r_aload_n ok53 21 rfl rfl rfl ?_
        refine r_getA ok53 22 rfl rfl ho rfl ?_
        refine r_ldc2_w (v := 465557353332) ok53 23 rfl rfl rfl ?_
        refine r_iconst (v := 0) ok53 24 rfl rfl rfl ?_
        refine r_sipush (v := 240) ok53 25 rfl rfl rfl ?_
        refine r_invVi (as := [.long 465557353332, .int 0, .int 240]) (S := []) ok53 26 rfl rfl mf116 rfl rfl (Nat.le_of_ble_eq_true rfl) rfl h5 (fun v6 σ6 h6 => ?_)
        refine r_istore_n ok53 27 rfl rfl ?_
        refine r_iload_n ok53 28 rfl rfl rfl ?_
        refine r_if_ge ok53 29 rfl rfl (fun c7 => ?_) (fun c7 => ?_)
        · have h7 := h6.1 c7
          refine r_aload_n ok53 32 rfl rfl rfl ?_
          refine r_getA ok53 33 rfl rfl ho rfl ?_
          refine r_ldc2_w (v := 1836020596) ok53 34 rfl rfl rfl ?_
          refine r_iload_n ok53 35 rfl rfl rfl ?_
          refine r_sipush (v := 240) ok53 36 rfl rfl rfl ?_
          refine r_invVi (as := [.long 1836020596, .int v6, .int 240]) (S := []) ok53 37 rfl rfl mf116 rfl rfl (Nat.le_of_ble_eq_true rfl) rfl h7 (fun v8 σ8 h8 => ?_)
          refine r_istore_n ok53 38 rfl rfl ?_
          refine r_iload_n ok53 39 rfl rfl rfl ?_
          refine r_if_lt ok53 40 rfl rfl (fun c9 => ?_) (fun c9 => ?_)
          · have h9 := h8.1 c9
            refine r_iconst (v := 0) ok53 46 rfl rfl rfl ?_
            exact r_zret ok53 47 rfl rfl rfl (Or.inl rfl) h9
          · have h9 := h8.2 c9
            refine r_aload_n ok53 41 rfl rfl rfl ?_
            refine r_getA ok53 42 rfl rfl ho rfl ?_
            refine r_bipush (v := 59) ok53 43 rfl rfl rfl ?_
            refine r_invVi (as := [.int 59]) (S := []) ok53 44 rfl rfl mf114 rfl rfl (Nat.le_of_ble_eq_true rfl) rfl h9 (fun v10 σ10 h10 => ?_)
            refine r_if_ne ok53 45 rfl rfl (fun c11 => ?_) (fun c11 => ?_)
            · have h11 := h10.1 c11
              refine r_aload_n ok53 48 rfl rfl rfl ?_
              refine r_getF ok53 49 rfl rfl ho rfl ?_
              refine r_aload_n ok53 50 rfl rfl rfl ?_
              refine r_getI ok53 51 rfl rfl ho rfl ?_
              refine r_iload_n ok53 52 rfl rfl rfl ?_
              obtain ⟨c12, h12⟩ := h11
              refine r_iast ok53 53 rfl rfl (rel_shp ho (i := 23) rfl) c12 ?_
              refine r_aload_n ok53 54 rfl rfl rfl ?_
              refine r_getF ok53 55 rfl rfl ho rfl ?_
              refine r_aload_n ok53 56 rfl rfl rfl ?_
              refine r_getI ok53 57 rfl rfl ho rfl ?_
              refine r_iload_n ok53 58 rfl rfl rfl ?_
              obtain ⟨c13, h13⟩ := h12
              refine r_iast ok53 59 rfl rfl (rel_shp ho (i := 24) rfl) c13 ?_
              refine r_aload_n ok53 60 rfl rfl rfl ?_
              refine r_getF ok53 61 rfl rfl ho rfl ?_
              refine r_aload_n ok53 62 rfl rfl rfl ?_
              refine r_getI ok53 63 rfl rfl ho rfl ?_
              refine r_aload_n ok53 64 rfl rfl rfl ?_
              refine r_getI ok53 65 rfl rfl ho rfl ?_
              obtain ⟨c14, h14⟩ := h13
              refine r_iast ok53 66 rfl rfl (rel_shp ho (i := 25) rfl) c14 ?_
              refine r_aload_n ok53 67 rfl rfl rfl ?_
              refine r_dup ok53 68 rfl rfl rfl ?_
              refine r_getI ok53 69 rfl rfl ho rfl ?_
              refine r_iconst (v := 1) ok53 70 rfl rfl rfl ?_
              refine r_iadd ok53 71 rfl rfl ?_
              refine r_putI ok53 72 rfl rfl ho rfl ?_
              refine r_iconst (v := 1) ok53 73 rfl rfl rfl ?_
              exact r_zret ok53 74 rfl rfl rfl (Or.inr rfl) h14
            · have h11 := h10.2 c11
              refine r_iconst (v := 0) ok53 46 rfl rfl rfl ?_
              exact r_zret ok53 47 rfl rfl rfl (Or.inl rfl) h11
        · have h7 := h6.2 c7
          refine r_iconst (v := 0) ok53 30 rfl rfl rfl ?_
          exact r_zret ok53 31 rfl rfl rfl (Or.inl rfl) h7
      · have h5 := h4.2 c5
        refine r_iconst (v := 0) ok53 19 rfl rfl rfl ?_
        exact r_zret ok53 20 rfl rfl rfl (Or.inl rfl) h5
  · have h1 := h.2 c1
    refine r_aload_n ok53 4 rfl rfl rfl ?_
    refine r_getA ok53 5 rfl rfl ho rfl ?_
    refine r_iconst (v := 2) ok53 6 rfl rfl rfl ?_
    refine r_invVi (as := [.int 2]) (S := []) ok53 7 rfl rfl mf109 rfl rfl (Nat.le_of_ble_eq_true rfl) rfl h1 (fun v15 σ15 h15 => ?_)
    exact r_zret ok53 8 rfl rfl rfl h15.1 h15.2

theorem K53 {Θ : Th} {d : Nat} {σ : Mem} {Q : Po} {o : Nat} (h : G Θ (d + 1) 53 0 [some (.ref o), none, none] [] σ Q) : Cm Θ (d + 1) 53 [.ref o] σ Q :=
  C_of_G okM53 (Nat.le_of_ble_eq_true rfl) rfl h

-- 54: LikeYears$Laws.readLevel(II)Z
set_option maxRecDepth 100000 in
set_option maxHeartbeats 4000000 in
theorem B54_0 {Θ : Th} {d : Nat} {σ : Mem} {Q : Po} {o : Nat} {x1 : Int32} {x2 : Int32} (ho : (shq o).1 = 6)
    (h : ((¬ x1 = 5 → ((¬ x1 = 2 → Ci Θ d 54 [.ref o, .int (x1 + 1), .int x2] σ (fun v3 σ3 => ((¬ x1 = 2 → G Θ (d + 1) 54 103 [some (.ref o), some (.int x1), some (.int x2), some (.int v3), some (.int 50), some (.int 0), none] [] σ3 Q) ∧ (x1 = 2 → G Θ (d + 1) 54 103 [some (.ref o), some (.int x1), some (.int x2), some (.int v3), some (.int 1), some (.int 0), none] [] σ3 Q)))) ∧ (x1 = 2 → Ci Θ d 110 [.ref 1, .long 7237492] σ (fun v5 σ5 => ((v5 = 0 → Ci Θ d 54 [.ref o, .int (x1 + 1), .int x2] σ5 (fun v7 σ7 => ((¬ x1 = 2 → G Θ (d + 1) 54 103 [some (.ref o), some (.int x1), some (.int x2), some (.int v7), some (.int 50), some (.int 0), none] [] σ7 Q) ∧ (x1 = 2 → G Θ (d + 1) 54 103 [some (.ref o), some (.int x1), some (.int x2), some (.int v7), some (.int 1), some (.int 0), none] [] σ7 Q)))) ∧ (¬ v5 = 0 → ((x2 ≤ 6 → Cv Θ d 102 [.ref 1] σ5 (fun σ10 => Ci Θ d 54 [.ref o, .int 2, .int (x2 + 1)] σ10 (fun v11 σ11 => ((v11 = 0 → Q (some (.int 0)) σ11) ∧ (¬ v11 = 0 → Ci Θ d 60 [.ref o, .int 6, .int 0] σ11 (fun v13 σ13 => ((v13 = 0 → Q (some (.int 0)) σ13) ∧ (¬ v13 = 0 → Q (some (.int 1)) σ13)))))))) ∧ (¬ x2 ≤ 6 → Ci Θ d 109 [.ref 1, .int 2] σ5 (fun v15 σ15 => ((v15 = 0 ∨ v15 = 1) ∧ Q (some (.int v15)) σ15)))))))))) ∧ (x1 = 5 → Ci Θ d 57 [.ref o, .int x2] σ (fun v16 σ16 => ((v16 = 0 ∨ v16 = 1) ∧ Q (some (.int v16)) σ16))))) :
    G Θ (d + 1) 54 0 [some (.ref o), some (.int x1), some (.int x2), none, none, none, none] [] σ Q := by
  refine r_iload_n ok54 0 rfl rfl rfl ?_
  refine r_iconst (v := 5) ok54 1 rfl rfl rfl ?_
  refine r_icmp_ne ok54 2 rfl rfl (fun c1 => ?_) (fun c1 => ?_)
  · have h1 := h.1 c1
    refine r_iload_n ok54 7 rfl rfl rfl ?_
    refine r_iconst (v := 2) ok54 8 rfl rfl rfl ?_
    refine r_icmp_ne ok54 9 rfl rfl (fun c2 => ?_) (fun c2 => ?_)
    · have h2 := h1.1 c2
      refine r_aload_n ok54 42 rfl rfl rfl ?_
      refine r_iload_n ok54 43 rfl rfl rfl ?_
      refine r_iconst (v := 1) ok54 44 rfl rfl rfl ?_
      refine r_iadd ok54 45 rfl rfl ?_
      refine r_iload_n ok54 46 rfl rfl rfl ?_
      refine r_invVi (as := [.int (x1 + 1), .int x2]) (S := []) ok54 47 rfl rfl mf54 ho rfl (Nat.le_of_ble_eq_true rfl) rfl h2 (fun v3 σ3 h3 => ?_)
      refine r_istore_n ok54 48 rfl rfl ?_
      refine r_iload_n ok54 49 rfl rfl rfl ?_
      refine r_iconst (v := 2) ok54 50 rfl rfl rfl ?_
      refine r_icmp_ne ok54 51 rfl rfl (fun c4 => ?_) (fun c4 => ?_)
      · have h4 := h3.1 c4
        refine r_bipush (v := 50) ok54 54 rfl rfl rfl ?_
        refine r_istore ok54 55 rfl rfl ?_
        refine r_iconst (v := 0) ok54 56 rfl rfl rfl ?_
        refine r_istore ok54 57 rfl rfl ?_
        exact h4
      · have h4 := h3.2 c4
        refine r_iconst (v := 1) ok54 52 rfl rfl rfl ?_
        refine r_goto ok54 53 rfl rfl ?_
        refine r_istore ok54 55 rfl rfl ?_
        refine r_iconst (v := 0) ok54 56 rfl rfl rfl ?_
        refine r_istore ok54 57 rfl rfl ?_
        exact h4
    · have h2 := h1.2 c2
      refine r_aload_n ok54 10 rfl rfl rfl ?_
      refine r_getA ok54 11 rfl rfl ho rfl ?_
      refine r_ldc2_w (v := 7237492) ok54 12 rfl rfl rfl ?_
      refine r_invVi (as := [.long 7237492]) (S := []) ok54 13 rfl rfl mf110 rfl rfl (Nat.le_of_ble_eq_true rfl) rfl h2 (fun v5 σ5 h5 => ?_)
      refine r_if_eq ok54 14 rfl rfl (fun c6 => ?_) (fun c6 => ?_)
      · have h6 := h5.1 c6
        refine r_aload_n ok54 42 rfl rfl rfl ?_
        refine r_iload_n ok54 43 rfl rfl rfl ?_
        refine r_iconst (v := 1) ok54 44 rfl rfl rfl ?_
        refine r_iadd ok54 45 rfl rfl ?_
        refine r_iload_n ok54 46 rfl rfl rfl ?_
        refine r_invVi (as := [.int (x1 + 1), .int x2]) (S := []) ok54 47 rfl rfl mf54 ho rfl (Nat.le_of_ble_eq_true rfl) rfl h6 (fun v7 σ7 h7 => ?_)
        refine r_istore_n ok54 48 rfl rfl ?_
        refine r_iload_n ok54 49 rfl rfl rfl ?_
        refine r_iconst (v := 2) ok54 50 rfl rfl rfl ?_
        refine r_icmp_ne ok54 51 rfl rfl (fun c8 => ?_) (fun c8 => ?_)
        · have h8 := h7.1 c8
          refine r_bipush (v := 50) ok54 54 rfl rfl rfl ?_
          refine r_istore ok54 55 rfl rfl ?_
          refine r_iconst (v := 0) ok54 56 rfl rfl rfl ?_
          refine r_istore ok54 57 rfl rfl ?_
          exact h8
        · have h8 := h7.2 c8
          refine r_iconst (v := 1) ok54 52 rfl rfl rfl ?_
          refine r_goto ok54 53 rfl rfl ?_
          refine r_istore ok54 55 rfl rfl ?_
          refine r_iconst (v := 0) ok54 56 rfl rfl rfl ?_
          refine r_istore ok54 57 rfl rfl ?_
          exact h8
      · have h6 := h5.2 c6
        refine r_iload_n ok54 15 rfl rfl rfl ?_
        refine r_bipush (v := 6) ok54 16 rfl rfl rfl ?_
        refine r_icmp_le ok54 17 rfl rfl (fun c9 => ?_) (fun c9 => ?_)
        · have h9 := h6.1 c9
          refine r_aload_n ok54 23 rfl rfl rfl ?_
          refine r_getA ok54 24 rfl rfl ho rfl ?_
          refine r_invVv (as := []) (S := []) ok54 25 rfl rfl mf102 rfl rfl (Nat.le_of_ble_eq_true rfl) rfl h9 (fun σ10 h10 => ?_)
          refine r_aload_n ok54 26 rfl rfl rfl ?_
          refine r_iconst (v := 2) ok54 27 rfl rfl rfl ?_
          refine r_iload_n ok54 28 rfl rfl rfl ?_
          refine r_iconst (v := 1) ok54 29 rfl rfl rfl ?_
          refine r_iadd ok54 30 rfl rfl ?_
          refine r_invVi (as := [.int 2, .int (x2 + 1)]) (S := []) ok54 31 rfl rfl mf54 ho rfl (Nat.le_of_ble_eq_true rfl) rfl h10 (fun v11 σ11 h11 => ?_)
          refine r_if_eq ok54 32 rfl rfl (fun c12 => ?_) (fun c12 => ?_)
          · have h12 := h11.1 c12
            refine r_iconst (v := 0) ok54 40 rfl rfl rfl ?_
            exact r_zret ok54 41 rfl rfl rfl (Or.inl rfl) h12
          · have h12 := h11.2 c12
            refine r_aload_n ok54 33 rfl rfl rfl ?_
            refine r_bipush (v := 6) ok54 34 rfl rfl rfl ?_
            refine r_iconst (v := 0) ok54 35 rfl rfl rfl ?_
            refine r_invVi (as := [.int 6, .int 0]) (S := []) ok54 36 rfl rfl mf60 ho rfl (Nat.le_of_ble_eq_true rfl) rfl h12 (fun v13 σ13 h13 => ?_)
            refine r_if_eq ok54 37 rfl rfl (fun c14 => ?_) (fun c14 => ?_)
            · have h14 := h13.1 c14
              refine r_iconst (v := 0) ok54 40 rfl rfl rfl ?_
              exact r_zret ok54 41 rfl rfl rfl (Or.inl rfl) h14
            · have h14 := h13.2 c14
              refine r_iconst (v := 1) ok54 38 rfl rfl rfl ?_
              refine r_goto ok54 39 rfl rfl ?_
              exact r_zret ok54 41 rfl rfl rfl (Or.inr rfl) h14
        · have h9 := h6.2 c9
          refine r_aload_n ok54 18 rfl rfl rfl ?_
          refine r_getA ok54 19 rfl rfl ho rfl ?_
          refine r_iconst (v := 2) ok54 20 rfl rfl rfl ?_
          refine r_invVi (as := [.int 2]) (S := []) ok54 21 rfl rfl mf109 rfl rfl (Nat.le_of_ble_eq_true rfl) rfl h9 (fun v15 σ15 h15 => ?_)
          exact r_zret ok54 22 rfl rfl rfl h15.1 h15.2
  · have h1 := h.2 c1
    refine r_aload_n ok54 3 rfl rfl rfl ?_
    refine r_iload_n ok54 4 rfl rfl rfl ?_
    refine r_invVi (as := [.int x2]) (S := []) ok54 5 rfl rfl mf57 ho rfl (Nat.le_of_ble_eq_true rfl) rfl h1 (fun v16 σ16 h16 => ?_)
    exact r_zret ok54 6 rfl rfl rfl h16.1 h16.2

set_option maxRecDepth 100000 in
set_option maxHeartbeats 4000000 in
theorem B54_103 {Θ : Th} {d : Nat} {σ : Mem} {Q : Po} {o : Nat} {x1 : Int32} {x2 : Int32} {x3 : Int32} {x4 : Int32} {x5 : Int32} (ho : (shq o).1 = 6)
    (h : ((x4 ≤ x5 → ((x3 = 0 ∨ x3 = 1) ∧ Q (some (.int x3)) σ)) ∧ (¬ x4 ≤ x5 → ((x3 = 0 → ((x3 = 0 ∨ x3 = 1) ∧ Q (some (.int x3)) σ)) ∧ (¬ x3 = 0 → Ci Θ d 55 [.ref o, .int x1] σ (fun v3 σ3 => ((v3 < 0 → ((x3 = 0 ∨ x3 = 1) ∧ Q (some (.int x3)) σ3)) ∧ (¬ v3 < 0 → Ci Θ d 55 [.ref o, .int x1] σ3 (fun v5 σ5 => Cv Θ d 102 [.ref 1] σ5 (fun σ6 => Ci Θ d 54 [.ref o, .int (x1 + 1), .int x2] σ6 (fun v7 σ7 => ((v7 = 0 → G Θ (d + 1) 54 103 [some (.ref o), some (.int x1), some (.int x2), some (.int 0), some (.int x4), some (.int (x5 + 1)), none] [] σ7 Q) ∧ (¬ v7 = 0 → Ci Θ d 60 [.ref o, .int v5, .int 0] σ7 (fun v9 σ9 => ((v9 = 0 → G Θ (d + 1) 54 103 [some (.ref o), some (.int x1), some (.int x2), some (.int 0), some (.int x4), some (.int (x5 + 1)), none] [] σ9 Q) ∧ (¬ v9 = 0 → G Θ (d + 1) 54 103 [some (.ref o), some (.int x1), some (.int x2), some (.int 1), some (.int x4), some (.int (x5 + 1)), none] [] σ9 Q)))))))))))))))) :
    G Θ (d + 1) 54 103 [some (.ref o), some (.int x1), some (.int x2), some (.int x3), some (.int x4), some (.int x5), none] [] σ Q := by
  refine r_iload ok54 58 rfl rfl rfl ?_
  refine r_iload ok54 59 rfl rfl rfl ?_
  refine r_icmp_ge ok54 60 rfl rfl (fun c1 => ?_) (fun c1 => ?_)
  · have h1 := h.1 c1
    refine r_iload_n ok54 92 rfl rfl rfl ?_
    exact r_zret ok54 93 rfl rfl rfl h1.1 h1.2
  · have h1 := h.2 c1
    refine r_iload_n ok54 61 rfl rfl rfl ?_
    refine r_if_eq ok54 62 rfl rfl (fun c2 => ?_) (fun c2 => ?_)
    · have h2 := h1.1 c2
      refine r_iload_n ok54 92 rfl rfl rfl ?_
      exact r_zret ok54 93 rfl rfl rfl h2.1 h2.2
    · have h2 := h1.2 c2
      refine r_aload_n ok54 63 rfl rfl rfl ?_
      refine r_iload_n ok54 64 rfl rfl rfl ?_
      refine r_invVi (as := [.int x1]) (S := []) ok54 65 rfl rfl mf55 ho rfl (Nat.le_of_ble_eq_true rfl) rfl h2 (fun v3 σ3 h3 => ?_)
      refine r_if_lt ok54 66 rfl rfl (fun c4 => ?_) (fun c4 => ?_)
      · have h4 := h3.1 c4
        refine r_iload_n ok54 92 rfl rfl rfl ?_
        exact r_zret ok54 93 rfl rfl rfl h4.1 h4.2
      · have h4 := h3.2 c4
        refine r_aload_n ok54 67 rfl rfl rfl ?_
        refine r_iload_n ok54 68 rfl rfl rfl ?_
        refine r_invVi (as := [.int x1]) (S := []) ok54 69 rfl rfl mf55 ho rfl (Nat.le_of_ble_eq_true rfl) rfl h4 (fun v5 σ5 h5 => ?_)
        refine r_istore ok54 70 rfl rfl ?_
        refine r_aload_n ok54 71 rfl rfl rfl ?_
        refine r_getA ok54 72 rfl rfl ho rfl ?_
        refine r_invVv (as := []) (S := []) ok54 73 rfl rfl mf102 rfl rfl (Nat.le_of_ble_eq_true rfl) rfl h5 (fun σ6 h6 => ?_)
        refine r_aload_n ok54 74 rfl rfl rfl ?_
        refine r_iload_n ok54 75 rfl rfl rfl ?_
        refine r_iconst (v := 1) ok54 76 rfl rfl rfl ?_
        refine r_iadd ok54 77 rfl rfl ?_
        refine r_iload_n ok54 78 rfl rfl rfl ?_
        refine r_invVi (as := [.int (x1 + 1), .int x2]) (S := []) ok54 79 rfl rfl mf54 ho rfl (Nat.le_of_ble_eq_true rfl) rfl h6 (fun v7 σ7 h7 => ?_)
        refine r_if_eq ok54 80 rfl rfl (fun c8 => ?_) (fun c8 => ?_)
        · have h8 := h7.1 c8
          refine r_iconst (v := 0) ok54 88 rfl rfl rfl ?_
          refine r_istore_n ok54 89 rfl rfl ?_
          refine r_iinc (v := x5 + 1) ok54 90 rfl rfl rfl rfl ?_
          refine r_goto ok54 91 rfl rfl ?_
          exact G.weak (L' := [some (.ref o), some (.int x1), some (.int x2), some (.int 0), some (.int x4), some (.int (x5 + 1)), none]) ⟨rfl, ⟨rfl, ⟨rfl, ⟨rfl, ⟨rfl, ⟨rfl, trivial⟩⟩⟩⟩⟩⟩ h8
        · have h8 := h7.2 c8
          refine r_aload_n ok54 81 rfl rfl rfl ?_
          refine r_iload ok54 82 rfl rfl rfl ?_
          refine r_iconst (v := 0) ok54 83 rfl rfl rfl ?_
          refine r_invVi (as := [.int v5, .int 0]) (S := []) ok54 84 rfl rfl mf60 ho rfl (Nat.le_of_ble_eq_true rfl) rfl h8 (fun v9 σ9 h9 => ?_)
          refine r_if_eq ok54 85 rfl rfl (fun c10 => ?_) (fun c10 => ?_)
          · have h10 := h9.1 c10
            refine r_iconst (v := 0) ok54 88 rfl rfl rfl ?_
            refine r_istore_n ok54 89 rfl rfl ?_
            refine r_iinc (v := x5 + 1) ok54 90 rfl rfl rfl rfl ?_
            refine r_goto ok54 91 rfl rfl ?_
            exact G.weak (L' := [some (.ref o), some (.int x1), some (.int x2), some (.int 0), some (.int x4), some (.int (x5 + 1)), none]) ⟨rfl, ⟨rfl, ⟨rfl, ⟨rfl, ⟨rfl, ⟨rfl, trivial⟩⟩⟩⟩⟩⟩ h10
          · have h10 := h9.2 c10
            refine r_iconst (v := 1) ok54 86 rfl rfl rfl ?_
            refine r_goto ok54 87 rfl rfl ?_
            refine r_istore_n ok54 89 rfl rfl ?_
            refine r_iinc (v := x5 + 1) ok54 90 rfl rfl rfl rfl ?_
            refine r_goto ok54 91 rfl rfl ?_
            exact G.weak (L' := [some (.ref o), some (.int x1), some (.int x2), some (.int 1), some (.int x4), some (.int (x5 + 1)), none]) ⟨rfl, ⟨rfl, ⟨rfl, ⟨rfl, ⟨rfl, ⟨rfl, trivial⟩⟩⟩⟩⟩⟩ h10

theorem K54 {Θ : Th} {d : Nat} {σ : Mem} {Q : Po} {o : Nat} {x1 : Int32} {x2 : Int32} (h : G Θ (d + 1) 54 0 [some (.ref o), some (.int x1), some (.int x2), none, none, none, none] [] σ Q) : Cm Θ (d + 1) 54 [.ref o, .int x1, .int x2] σ Q :=
  C_of_G okM54 (Nat.le_of_ble_eq_true rfl) rfl h

-- 55: LikeYears$Laws.signHere(I)I
set_option maxRecDepth 100000 in
set_option maxHeartbeats 4000000 in
theorem B55_0 {Θ : Th} {d : Nat} {σ : Mem} {Q : Po} {o : Nat} {x1 : Int32} (ho : (shq o).1 = 6)
    (h : (((x1.toInt < 0 ∨ 4 < x1.toInt) → Q (some (.int (-1))) σ) ∧ (x1.toInt = 0 → Ci Θ d 110 [.ref 1, .long 28530] σ (fun v2 σ2 => ((v2 = 0 → Q (some (.int (-1))) σ2) ∧ (¬ v2 = 0 → Q (some (.int 7)) σ2)))) ∧ (x1.toInt = 1 → Ci Θ d 110 [.ref 1, .long 6385252] σ (fun v4 σ4 => ((v4 = 0 → Q (some (.int (-1))) σ4) ∧ (¬ v4 = 0 → Q (some (.int 8)) σ4)))) ∧ (x1.toInt = 2 → Ci Θ d 56 [.ref o] σ (fun v6 σ6 => Q (some (.int v6)) σ6)) ∧ (x1.toInt = 3 → Ci Θ d 111 [.ref 1, .int 43] σ (fun v7 σ7 => ((v7 = 0 → Ci Θ d 111 [.ref 1, .int 45] σ7 (fun v9 σ9 => ((v9 = 0 → Q (some (.int (-1))) σ9) ∧ (¬ v9 = 0 → Q (some (.int 13)) σ9)))) ∧ (¬ v7 = 0 → Q (some (.int 12)) σ7)))) ∧ (x1.toInt = 4 → Ci Θ d 111 [.ref 1, .int 42] σ (fun v11 σ11 => ((v11 = 0 → Q (some (.int (-1))) σ11) ∧ (¬ v11 = 0 → Q (some (.int 14)) σ11)))))) :
    G Θ (d + 1) 55 0 [some (.ref o), some (.int x1)] [] σ Q := by
  refine r_iload_n ok55 0 rfl rfl rfl ?_
  refine r_tsw (tl := [36, 56, 76, 81, 117]) ok55 1 rfl rfl rfl rfl (fun c1 => ?_) ?_
  · have h1 := h.1 c1
    refine r_iconst (v := (-1)) ok55 48 rfl rfl rfl ?_
    exact r_iret ok55 49 rfl rfl rfl h1
  · refine And.intro (fun c1 => ?_) ?_
    · have h1 := h.2.1 c1
      refine r_aload_n ok55 2 rfl rfl rfl ?_
      refine r_getA ok55 3 rfl rfl ho rfl ?_
      refine r_ldc2_w (v := 28530) ok55 4 rfl rfl rfl ?_
      refine r_invVi (as := [.long 28530]) (S := []) ok55 5 rfl rfl mf110 rfl rfl (Nat.le_of_ble_eq_true rfl) rfl h1 (fun v2 σ2 h2 => ?_)
      refine r_if_eq ok55 6 rfl rfl (fun c3 => ?_) (fun c3 => ?_)
      · have h3 := h2.1 c3
        refine r_iconst (v := (-1)) ok55 9 rfl rfl rfl ?_
        exact r_iret ok55 10 rfl rfl rfl h3
      · have h3 := h2.2 c3
        refine r_bipush (v := 7) ok55 7 rfl rfl rfl ?_
        refine r_goto ok55 8 rfl rfl ?_
        exact r_iret ok55 10 rfl rfl rfl h3
    · refine And.intro (fun c1 => ?_) ?_
      · have h1 := h.2.2.1 c1
        refine r_aload_n ok55 11 rfl rfl rfl ?_
        refine r_getA ok55 12 rfl rfl ho rfl ?_
        refine r_ldc2_w (v := 6385252) ok55 13 rfl rfl rfl ?_
        refine r_invVi (as := [.long 6385252]) (S := []) ok55 14 rfl rfl mf110 rfl rfl (Nat.le_of_ble_eq_true rfl) rfl h1 (fun v4 σ4 h4 => ?_)
        refine r_if_eq ok55 15 rfl rfl (fun c5 => ?_) (fun c5 => ?_)
        · have h5 := h4.1 c5
          refine r_iconst (v := (-1)) ok55 18 rfl rfl rfl ?_
          exact r_iret ok55 19 rfl rfl rfl h5
        · have h5 := h4.2 c5
          refine r_bipush (v := 8) ok55 16 rfl rfl rfl ?_
          refine r_goto ok55 17 rfl rfl ?_
          exact r_iret ok55 19 rfl rfl rfl h5
      · refine And.intro (fun c1 => ?_) ?_
        · have h1 := h.2.2.2.1 c1
          refine r_aload_n ok55 20 rfl rfl rfl ?_
          refine r_invVi (as := []) (S := []) ok55 21 rfl rfl mf56 ho rfl (Nat.le_of_ble_eq_true rfl) rfl h1 (fun v6 σ6 h6 => ?_)
          exact r_iret ok55 22 rfl rfl rfl h6
        · refine And.intro (fun c1 => ?_) ?_
          · have h1 := h.2.2.2.2.1 c1
            refine r_aload_n ok55 23 rfl rfl rfl ?_
            refine r_getA ok55 24 rfl rfl ho rfl ?_
            refine r_bipush (v := 43) ok55 25 rfl rfl rfl ?_
            refine r_invVi (as := [.int 43]) (S := []) ok55 26 rfl rfl mf111 rfl rfl (Nat.le_of_ble_eq_true rfl) rfl h1 (fun v7 σ7 h7 => ?_)
            refine r_if_eq ok55 27 rfl rfl (fun c8 => ?_) (fun c8 => ?_)
            · have h8 := h7.1 c8
              refine r_aload_n ok55 30 rfl rfl rfl ?_
              refine r_getA ok55 31 rfl rfl ho rfl ?_
              refine r_bipush (v := 45) ok55 32 rfl rfl rfl ?_
              refine r_invVi (as := [.int 45]) (S := []) ok55 33 rfl rfl mf111 rfl rfl (Nat.le_of_ble_eq_true rfl) rfl h8 (fun v9 σ9 h9 => ?_)
              refine r_if_eq ok55 34 rfl rfl (fun c10 => ?_) (fun c10 => ?_)
              · have h10 := h9.1 c10
                refine r_iconst (v := (-1)) ok55 37 rfl rfl rfl ?_
                exact r_iret ok55 38 rfl rfl rfl h10
              · have h10 := h9.2 c10
                refine r_bipush (v := 13) ok55 35 rfl rfl rfl ?_
                refine r_goto ok55 36 rfl rfl ?_
                exact r_iret ok55 38 rfl rfl rfl h10
            · have h8 := h7.2 c8
              refine r_bipush (v := 12) ok55 28 rfl rfl rfl ?_
              refine r_goto ok55 29 rfl rfl ?_
              exact r_iret ok55 38 rfl rfl rfl h8
          · intro c1
            have h1 := h.2.2.2.2.2 c1
            refine r_aload_n ok55 39 rfl rfl rfl ?_
            refine r_getA ok55 40 rfl rfl ho rfl ?_
            refine r_bipush (v := 42) ok55 41 rfl rfl rfl ?_
            refine r_invVi (as := [.int 42]) (S := []) ok55 42 rfl rfl mf111 rfl rfl (Nat.le_of_ble_eq_true rfl) rfl h1 (fun v11 σ11 h11 => ?_)
            refine r_if_eq ok55 43 rfl rfl (fun c12 => ?_) (fun c12 => ?_)
            · have h12 := h11.1 c12
              refine r_iconst (v := (-1)) ok55 46 rfl rfl rfl ?_
              exact r_iret ok55 47 rfl rfl rfl h12
            · have h12 := h11.2 c12
              refine r_bipush (v := 14) ok55 44 rfl rfl rfl ?_
              refine r_goto ok55 45 rfl rfl ?_
              exact r_iret ok55 47 rfl rfl rfl h12

theorem K55 {Θ : Th} {d : Nat} {σ : Mem} {Q : Po} {o : Nat} {x1 : Int32} (h : G Θ (d + 1) 55 0 [some (.ref o), some (.int x1)] [] σ Q) : Cm Θ (d + 1) 55 [.ref o, .int x1] σ Q :=
  C_of_G okM55 (Nat.le_of_ble_eq_true rfl) rfl h

-- 56: LikeYears$Laws.relationHere()I
set_option maxRecDepth 100000 in
set_option maxHeartbeats 4000000 in
theorem B56_0 {Θ : Th} {d : Nat} {σ : Mem} {Q : Po} {o : Nat} (ho : (shq o).1 = 6)
    (h : Ci Θ d 111 [.ref 1, .int 60] σ (fun v1 σ1 => ((v1 = 0 → Ci Θ d 111 [.ref 1, .int 62] σ1 (fun v3 σ3 => ((v3 = 0 → Ci Θ d 111 [.ref 1, .int 61] σ3 (fun v5 σ5 => ((v5 = 0 → Q (some (.int (-1))) σ5) ∧ (¬ v5 = 0 → Q (some (.int 11)) σ5)))) ∧ (¬ v3 = 0 → Q (some (.int 10)) σ3)))) ∧ (¬ v1 = 0 → Q (some (.int 9)) σ1)))) :
    G Θ (d + 1) 56 0 [some (.ref o)] [] σ Q := by
  refine r_aload_n ok56 0 rfl rfl rfl ?_
  refine r_getA ok56 1 rfl rfl ho rfl ?_
  refine r_bipush (v := 60) ok56 2 rfl rfl rfl ?_
  refine r_invVi (as := [.int 60]) (S := []) ok56 3 rfl rfl mf111 rfl rfl (Nat.le_of_ble_eq_true rfl) rfl h (fun v1 σ1 h1 => ?_)
  refine r_if_eq ok56 4 rfl rfl (fun c2 => ?_) (fun c2 => ?_)
  · have h2 := h1.1 c2
    refine r_aload_n ok56 7 rfl rfl rfl ?_
    refine r_getA ok56 8 rfl rfl ho rfl ?_
    refine r_bipush (v := 62) ok56 9 rfl rfl rfl ?_
    refine r_invVi (as := [.int 62]) (S := []) ok56 10 rfl rfl mf111 rfl rfl (Nat.le_of_ble_eq_true rfl) rfl h2 (fun v3 σ3 h3 => ?_)
    refine r_if_eq ok56 11 rfl rfl (fun c4 => ?_) (fun c4 => ?_)
    · have h4 := h3.1 c4
      refine r_aload_n ok56 14 rfl rfl rfl ?_
      refine r_getA ok56 15 rfl rfl ho rfl ?_
      refine r_bipush (v := 61) ok56 16 rfl rfl rfl ?_
      refine r_invVi (as := [.int 61]) (S := []) ok56 17 rfl rfl mf111 rfl rfl (Nat.le_of_ble_eq_true rfl) rfl h4 (fun v5 σ5 h5 => ?_)
      refine r_if_eq ok56 18 rfl rfl (fun c6 => ?_) (fun c6 => ?_)
      · have h6 := h5.1 c6
        refine r_iconst (v := (-1)) ok56 21 rfl rfl rfl ?_
        exact r_iret ok56 22 rfl rfl rfl h6
      · have h6 := h5.2 c6
        refine r_bipush (v := 11) ok56 19 rfl rfl rfl ?_
        refine r_goto ok56 20 rfl rfl ?_
        exact r_iret ok56 22 rfl rfl rfl h6
    · have h4 := h3.2 c4
      refine r_bipush (v := 10) ok56 12 rfl rfl rfl ?_
      exact r_iret ok56 13 rfl rfl rfl h4
  · have h2 := h1.2 c2
    refine r_bipush (v := 9) ok56 5 rfl rfl rfl ?_
    exact r_iret ok56 6 rfl rfl rfl h2

theorem K56 {Θ : Th} {d : Nat} {σ : Mem} {Q : Po} {o : Nat} (h : G Θ (d + 1) 56 0 [some (.ref o)] [] σ Q) : Cm Θ (d + 1) 56 [.ref o] σ Q :=
  C_of_G okM56 (Nat.le_of_ble_eq_true rfl) rfl h

-- 57: LikeYears$Laws.readUnit(I)Z
set_option maxRecDepth 100000 in
set_option maxHeartbeats 4000000 in
theorem B57_0 {Θ : Th} {d : Nat} {σ : Mem} {Q : Po} {o : Nat} {x1 : Int32} (ho : (shq o).1 = 6)
    (h : (((σ.1 o 9) < 50 → Ci Θ d 111 [.ref 1, .int 40] (sI σ o 9 ((σ.1 o 9) + 1)) (fun v2 σ2 => ((v2 = 0 → Ci Θ d 58 [.ref o] σ2 (fun v4 σ4 => ((v4 = 0 ∨ v4 = 1) ∧ Q (some (.int v4)) σ4))) ∧ (¬ v2 = 0 → ((x1 ≤ 6 → Cv Θ d 102 [.ref 1] σ2 (fun σ6 => Ci Θ d 54 [.ref o, .int 0, .int (x1 + 1)] σ6 (fun v7 σ7 => ((v7 = 0 → Q (some (.int 0)) σ7) ∧ (¬ v7 = 0 → Ci Θ d 114 [.ref 1, .int 41] σ7 (fun v9 σ9 => ((v9 = 0 → Q (some (.int 0)) σ9) ∧ (¬ v9 = 0 → Q (some (.int 1)) σ9)))))))) ∧ (¬ x1 ≤ 6 → Ci Θ d 109 [.ref 1, .int 2] σ2 (fun v11 σ11 => ((v11 = 0 ∨ v11 = 1) ∧ Q (some (.int v11)) σ11)))))))) ∧ (¬ (σ.1 o 9) < 50 → Ci Θ d 109 [.ref 1, .int 2] σ (fun v12 σ12 => ((v12 = 0 ∨ v12 = 1) ∧ Q (some (.int v12)) σ12))))) :
    G Θ (d + 1) 57 0 [some (.ref o), some (.int x1)] [] σ Q := by
  refine r_aload_n ok57 0 rfl rfl rfl ?_
  refine r_getI ok57 1 rfl rfl ho rfl ?_
  refine r_bipush (v := 50) ok57 2 rfl rfl rfl ?_
  refine r_icmp_lt ok57 3 rfl rfl (fun c1 => ?_) (fun c1 => ?_)
  · have h1 := h.1 c1
    refine r_aload_n ok57 9 rfl rfl rfl ?_
    refine r_dup ok57 10 rfl rfl rfl ?_
    refine r_getI ok57 11 rfl rfl ho rfl ?_
    refine r_iconst (v := 1) ok57 12 rfl rfl rfl ?_
    refine r_iadd ok57 13 rfl rfl ?_
    refine r_putI ok57 14 rfl rfl ho rfl ?_
    refine r_aload_n ok57 15 rfl rfl rfl ?_
    refine r_getA ok57 16 rfl rfl ho rfl ?_
    refine r_bipush (v := 40) ok57 17 rfl rfl rfl ?_
    refine r_invVi (as := [.int 40]) (S := []) ok57 18 rfl rfl mf111 rfl rfl (Nat.le_of_ble_eq_true rfl) rfl h1 (fun v2 σ2 h2 => ?_)
    refine r_if_eq ok57 19 rfl rfl (fun c3 => ?_) (fun c3 => ?_)
    · have h3 := h2.1 c3
      refine r_aload_n ok57 47 rfl rfl rfl ?_
      refine r_invVi (as := []) (S := []) ok57 48 rfl rfl mf58 ho rfl (Nat.le_of_ble_eq_true rfl) rfl h3 (fun v4 σ4 h4 => ?_)
      exact r_zret ok57 49 rfl rfl rfl h4.1 h4.2
    · have h3 := h2.2 c3
      refine r_iload_n ok57 20 rfl rfl rfl ?_
      refine r_bipush (v := 6) ok57 21 rfl rfl rfl ?_
      refine r_icmp_le ok57 22 rfl rfl (fun c5 => ?_) (fun c5 => ?_)
      · have h5 := h3.1 c5
        refine r_aload_n ok57 28 rfl rfl rfl ?_
        refine r_getA ok57 29 rfl rfl ho rfl ?_
        refine r_invVv (as := []) (S := []) ok57 30 rfl rfl mf102 rfl rfl (Nat.le_of_ble_eq_true rfl) rfl h5 (fun σ6 h6 => ?_)
        refine r_aload_n ok57 31 rfl rfl rfl ?_
        refine r_iconst (v := 0) ok57 32 rfl rfl rfl ?_
        refine r_iload_n ok57 33 rfl rfl rfl ?_
        refine r_iconst (v := 1) ok57 34 rfl rfl rfl ?_
        refine r_iadd ok57 35 rfl rfl ?_
        refine r_invVi (as := [.int 0, .int (x1 + 1)]) (S := []) ok57 36 rfl rfl mf54 ho rfl (Nat.le_of_ble_eq_true rfl) rfl h6 (fun v7 σ7 h7 => ?_)
        refine r_if_eq ok57 37 rfl rfl (fun c8 => ?_) (fun c8 => ?_)
        · have h8 := h7.1 c8
          refine r_iconst (v := 0) ok57 45 rfl rfl rfl ?_
          exact r_zret ok57 46 rfl rfl rfl (Or.inl rfl) h8
        · have h8 := h7.2 c8
          refine r_aload_n ok57 38 rfl rfl rfl ?_
          refine r_getA ok57 39 rfl rfl ho rfl ?_
          refine r_bipush (v := 41) ok57 40 rfl rfl rfl ?_
          refine r_invVi (as := [.int 41]) (S := []) ok57 41 rfl rfl mf114 rfl rfl (Nat.le_of_ble_eq_true rfl) rfl h8 (fun v9 σ9 h9 => ?_)
          refine r_if_eq ok57 42 rfl rfl (fun c10 => ?_) (fun c10 => ?_)
          · have h10 := h9.1 c10
            refine r_iconst (v := 0) ok57 45 rfl rfl rfl ?_
            exact r_zret ok57 46 rfl rfl rfl (Or.inl rfl) h10
          · have h10 := h9.2 c10
            refine r_iconst (v := 1) ok57 43 rfl rfl rfl ?_
            refine r_goto ok57 44 rfl rfl ?_
            exact r_zret ok57 46 rfl rfl rfl (Or.inr rfl) h10
      · have h5 := h3.2 c5
        refine r_aload_n ok57 23 rfl rfl rfl ?_
        refine r_getA ok57 24 rfl rfl ho rfl ?_
        refine r_iconst (v := 2) ok57 25 rfl rfl rfl ?_
        refine r_invVi (as := [.int 2]) (S := []) ok57 26 rfl rfl mf109 rfl rfl (Nat.le_of_ble_eq_true rfl) rfl h5 (fun v11 σ11 h11 => ?_)
        exact r_zret ok57 27 rfl rfl rfl h11.1 h11.2
  · have h1 := h.2 c1
    refine r_aload_n ok57 4 rfl rfl rfl ?_
    refine r_getA ok57 5 rfl rfl ho rfl ?_
    refine r_iconst (v := 2) ok57 6 rfl rfl rfl ?_
    refine r_invVi (as := [.int 2]) (S := []) ok57 7 rfl rfl mf109 rfl rfl (Nat.le_of_ble_eq_true rfl) rfl h1 (fun v12 σ12 h12 => ?_)
    exact r_zret ok57 8 rfl rfl rfl h12.1 h12.2

theorem K57 {Θ : Th} {d : Nat} {σ : Mem} {Q : Po} {o : Nat} {x1 : Int32} (h : G Θ (d + 1) 57 0 [some (.ref o), some (.int x1)] [] σ Q) : Cm Θ (d + 1) 57 [.ref o, .int x1] σ Q :=
  C_of_G okM57 (Nat.le_of_ble_eq_true rfl) rfl h

-- 58: LikeYears$Laws.readPlainUnit()Z
set_option maxRecDepth 100000 in
set_option maxHeartbeats 4000000 in
theorem B58_0 {Θ : Th} {d : Nat} {σ : Mem} {Q : Po} {o : Nat} (ho : (shq o).1 = 6)
    (h : ((¬ (σ.1 1 3) = 2 → Ci Θ d 112 [.ref 1] σ (fun v2 σ2 => ((v2 = 0 → Ci Θ d 59 [.ref o] σ2 (fun v4 σ4 => ((0 ≤ v4 → Ci Θ d 60 [.ref o, .int v4, .int 0] σ4 (fun v6 σ6 => Cv Θ d 102 [.ref 1] σ6 (fun σ7 => Q (some (.int 1)) σ7))) ∧ (¬ 0 ≤ v4 → Ci Θ d 109 [.ref 1, .int 2] σ4 (fun v8 σ8 => ((v8 = 0 ∨ v8 = 1) ∧ Q (some (.int v8)) σ8)))))) ∧ (¬ v2 = 0 → (σ2.2.2 o 1 ≠ 0 ∧ (shq (σ2.2.2 o 1)).1 = 1 ∧ Ci Θ d 10 [.ref (σ2.2.2 o 1), .long (σ2.2.1 1 5)] σ2 (fun v10 σ10 => ((0 ≤ v10 → Ci Θ d 60 [.ref o, .int 1, .int v10] σ10 (fun v12 σ12 => Cv Θ d 102 [.ref 1] σ12 (fun σ13 => Q (some (.int 1)) σ13))) ∧ (¬ 0 ≤ v10 → Ci Θ d 109 [.ref 1, .int 5] σ10 (fun v14 σ14 => ((v14 = 0 ∨ v14 = 1) ∧ Q (some (.int v14)) σ14)))))))))) ∧ ((σ.1 1 3) = 2 → Ci Θ d 60 [.ref o, .int 0, .int ((σ.2.1 1 5).toInt32)] σ (fun v15 σ15 => Cv Θ d 102 [.ref 1] σ15 (fun σ16 => Q (some (.int 1)) σ16))))) :
    G Θ (d + 1) 58 0 [some (.ref o), none] [] σ Q := by
  refine r_aload_n ok58 0 rfl rfl rfl ?_
  refine r_getA ok58 1 rfl rfl ho rfl ?_
  refine r_getI ok58 2 rfl rfl rfl rfl ?_
  refine r_iconst (v := 2) ok58 3 rfl rfl rfl ?_
  refine r_icmp_ne ok58 4 rfl rfl (fun c1 => ?_) (fun c1 => ?_)
  · have h1 := h.1 c1
    refine r_aload_n ok58 14 rfl rfl rfl ?_
    refine r_getA ok58 15 rfl rfl ho rfl ?_
    refine r_invVi (as := []) (S := []) ok58 16 rfl rfl mf112 rfl rfl (Nat.le_of_ble_eq_true rfl) rfl h1 (fun v2 σ2 h2 => ?_)
    refine r_if_eq ok58 17 rfl rfl (fun c3 => ?_) (fun c3 => ?_)
    · have h3 := h2.1 c3
      refine r_aload_n ok58 38 rfl rfl rfl ?_
      refine r_invVi (as := []) (S := []) ok58 39 rfl rfl mf59 ho rfl (Nat.le_of_ble_eq_true rfl) rfl h3 (fun v4 σ4 h4 => ?_)
      refine r_istore_n ok58 40 rfl rfl ?_
      refine r_iload_n ok58 41 rfl rfl rfl ?_
      refine r_if_ge ok58 42 rfl rfl (fun c5 => ?_) (fun c5 => ?_)
      · have h5 := h4.1 c5
        refine r_aload_n ok58 48 rfl rfl rfl ?_
        refine r_iload_n ok58 49 rfl rfl rfl ?_
        refine r_iconst (v := 0) ok58 50 rfl rfl rfl ?_
        refine r_invVi (as := [.int v4, .int 0]) (S := []) ok58 51 rfl rfl mf60 ho rfl (Nat.le_of_ble_eq_true rfl) rfl h5 (fun v6 σ6 h6 => ?_)
        refine r_pop ok58 52 rfl rfl rfl ?_
        refine r_aload_n ok58 53 rfl rfl rfl ?_
        refine r_getA ok58 54 rfl rfl ho rfl ?_
        refine r_invVv (as := []) (S := []) ok58 55 rfl rfl mf102 rfl rfl (Nat.le_of_ble_eq_true rfl) rfl h6 (fun σ7 h7 => ?_)
        refine r_iconst (v := 1) ok58 56 rfl rfl rfl ?_
        exact r_zret ok58 57 rfl rfl rfl (Or.inr rfl) h7
      · have h5 := h4.2 c5
        refine r_aload_n ok58 43 rfl rfl rfl ?_
        refine r_getA ok58 44 rfl rfl ho rfl ?_
        refine r_iconst (v := 2) ok58 45 rfl rfl rfl ?_
        refine r_invVi (as := [.int 2]) (S := []) ok58 46 rfl rfl mf109 rfl rfl (Nat.le_of_ble_eq_true rfl) rfl h5 (fun v8 σ8 h8 => ?_)
        exact r_zret ok58 47 rfl rfl rfl h8.1 h8.2
    · have h3 := h2.2 c3
      refine r_aload_n ok58 18 rfl rfl rfl ?_
      obtain ⟨c9, s9, h9⟩ := h3
      refine r_getR ok58 19 rfl rfl ho rfl c9 ?_
      refine r_aload_n ok58 20 rfl rfl rfl ?_
      refine r_getA ok58 21 rfl rfl ho rfl ?_
      refine r_getL ok58 22 rfl rfl rfl rfl ?_
      refine r_invVi (as := [.long (σ2.2.1 1 5)]) (S := []) ok58 23 rfl rfl mf10 s9 rfl (Nat.le_of_ble_eq_true rfl) rfl h9 (fun v10 σ10 h10 => ?_)
      refine r_istore_n ok58 24 rfl rfl ?_
      refine r_iload_n ok58 25 rfl rfl rfl ?_
      refine r_if_ge ok58 26 rfl rfl (fun c11 => ?_) (fun c11 => ?_)
      · have h11 := h10.1 c11
        refine r_aload_n ok58 32 rfl rfl rfl ?_
        refine r_iconst (v := 1) ok58 33 rfl rfl rfl ?_
        refine r_iload_n ok58 34 rfl rfl rfl ?_
        refine r_invVi (as := [.int 1, .int v10]) (S := []) ok58 35 rfl rfl mf60 ho rfl (Nat.le_of_ble_eq_true rfl) rfl h11 (fun v12 σ12 h12 => ?_)
        refine r_pop ok58 36 rfl rfl rfl ?_
        refine r_goto ok58 37 rfl rfl ?_
        refine r_aload_n ok58 53 rfl rfl rfl ?_
        refine r_getA ok58 54 rfl rfl ho rfl ?_
        refine r_invVv (as := []) (S := []) ok58 55 rfl rfl mf102 rfl rfl (Nat.le_of_ble_eq_true rfl) rfl h12 (fun σ13 h13 => ?_)
        refine r_iconst (v := 1) ok58 56 rfl rfl rfl ?_
        exact r_zret ok58 57 rfl rfl rfl (Or.inr rfl) h13
      · have h11 := h10.2 c11
        refine r_aload_n ok58 27 rfl rfl rfl ?_
        refine r_getA ok58 28 rfl rfl ho rfl ?_
        refine r_iconst (v := 5) ok58 29 rfl rfl rfl ?_
        refine r_invVi (as := [.int 5]) (S := []) ok58 30 rfl rfl mf109 rfl rfl (Nat.le_of_ble_eq_true rfl) rfl h11 (fun v14 σ14 h14 => ?_)
        exact r_zret ok58 31 rfl rfl rfl h14.1 h14.2
  · have h1 := h.2 c1
    refine r_aload_n ok58 5 rfl rfl rfl ?_
    refine r_iconst (v := 0) ok58 6 rfl rfl rfl ?_
    refine r_aload_n ok58 7 rfl rfl rfl ?_
    refine r_getA ok58 8 rfl rfl ho rfl ?_
    refine r_getL ok58 9 rfl rfl rfl rfl ?_
    refine r_l2i ok58 10 rfl rfl ?_
    refine r_invVi (as := [.int 0, .int ((σ.2.1 1 5).toInt32)]) (S := []) ok58 11 rfl rfl mf60 ho rfl (Nat.le_of_ble_eq_true rfl) rfl h1 (fun v15 σ15 h15 => ?_)
    refine r_pop ok58 12 rfl rfl rfl ?_
    refine r_goto ok58 13 rfl rfl ?_
    refine r_aload_n ok58 53 rfl rfl rfl ?_
    refine r_getA ok58 54 rfl rfl ho rfl ?_
    refine r_invVv (as := []) (S := []) ok58 55 rfl rfl mf102 rfl rfl (Nat.le_of_ble_eq_true rfl) rfl h15 (fun σ16 h16 => ?_)
    refine r_iconst (v := 1) ok58 56 rfl rfl rfl ?_
    exact r_zret ok58 57 rfl rfl rfl (Or.inr rfl) h16

theorem K58 {Θ : Th} {d : Nat} {σ : Mem} {Q : Po} {o : Nat} (h : G Θ (d + 1) 58 0 [some (.ref o), none] [] σ Q) : Cm Θ (d + 1) 58 [.ref o] σ Q :=
  C_of_G okM58 (Nat.le_of_ble_eq_true rfl) rfl h

-- 59: LikeYears$Laws.factHere()I
set_option maxRecDepth 100000 in
set_option maxHeartbeats 4000000 in
theorem B59_0 {Θ : Th} {d : Nat} {σ : Mem} {Q : Po} {o : Nat} (ho : (shq o).1 = 6)
    (h : Ci Θ d 110 [.ref 1, .long 457236047717] σ (fun v1 σ1 => ((v1 = 0 → Ci Θ d 110 [.ref 1, .long 26990] σ1 (fun v3 σ3 => ((v3 = 0 → Ci Θ d 110 [.ref 1, .long 444150998382] σ3 (fun v5 σ5 => ((v5 = 0 → Ci Θ d 110 [.ref 1, .long 131277443786868] σ5 (fun v7 σ7 => ((v7 = 0 → Q (some (.int (-1))) σ7) ∧ (¬ v7 = 0 → Q (some (.int 5)) σ7)))) ∧ (¬ v5 = 0 → Q (some (.int 4)) σ5)))) ∧ (¬ v3 = 0 → Q (some (.int 3)) σ3)))) ∧ (¬ v1 = 0 → Q (some (.int 2)) σ1)))) :
    G Θ (d + 1) 59 0 [some (.ref o)] [] σ Q := by
  refine r_aload_n ok59 0 rfl rfl rfl ?_
  refine r_getA ok59 1 rfl rfl ho rfl ?_
  refine r_ldc2_w (v := 457236047717) ok59 2 rfl rfl rfl ?_
  refine r_invVi (as := [.long 457236047717]) (S := []) ok59 3 rfl rfl mf110 rfl rfl (Nat.le_of_ble_eq_true rfl) rfl h (fun v1 σ1 h1 => ?_)
  refine r_if_eq ok59 4 rfl rfl (fun c2 => ?_) (fun c2 => ?_)
  · have h2 := h1.1 c2
    refine r_aload_n ok59 7 rfl rfl rfl ?_
    refine r_getA ok59 8 rfl rfl ho rfl ?_
    refine r_ldc2_w (v := 26990) ok59 9 rfl rfl rfl ?_
    refine r_invVi (as := [.long 26990]) (S := []) ok59 10 rfl rfl mf110 rfl rfl (Nat.le_of_ble_eq_true rfl) rfl h2 (fun v3 σ3 h3 => ?_)
    refine r_if_eq ok59 11 rfl rfl (fun c4 => ?_) (fun c4 => ?_)
    · have h4 := h3.1 c4
      refine r_aload_n ok59 14 rfl rfl rfl ?_
      refine r_getA ok59 15 rfl rfl ho rfl ?_
      refine r_ldc2_w (v := 444150998382) ok59 16 rfl rfl rfl ?_
      refine r_invVi (as := [.long 444150998382]) (S := []) ok59 17 rfl rfl mf110 rfl rfl (Nat.le_of_ble_eq_true rfl) rfl h4 (fun v5 σ5 h5 => ?_)
      refine r_if_eq ok59 18 rfl rfl (fun c6 => ?_) (fun c6 => ?_)
      · have h6 := h5.1 c6
        refine r_aload_n ok59 21 rfl rfl rfl ?_
        refine r_getA ok59 22 rfl rfl ho rfl ?_
        refine r_ldc2_w (v := 131277443786868) ok59 23 rfl rfl rfl ?_
        refine r_invVi (as := [.long 131277443786868]) (S := []) ok59 24 rfl rfl mf110 rfl rfl (Nat.le_of_ble_eq_true rfl) rfl h6 (fun v7 σ7 h7 => ?_)
        refine r_if_eq ok59 25 rfl rfl (fun c8 => ?_) (fun c8 => ?_)
        · have h8 := h7.1 c8
          refine r_iconst (v := (-1)) ok59 28 rfl rfl rfl ?_
          exact r_iret ok59 29 rfl rfl rfl h8
        · have h8 := h7.2 c8
          refine r_iconst (v := 5) ok59 26 rfl rfl rfl ?_
          refine r_goto ok59 27 rfl rfl ?_
          exact r_iret ok59 29 rfl rfl rfl h8
      · have h6 := h5.2 c6
        refine r_iconst (v := 4) ok59 19 rfl rfl rfl ?_
        exact r_iret ok59 20 rfl rfl rfl h6
    · have h4 := h3.2 c4
      refine r_iconst (v := 3) ok59 12 rfl rfl rfl ?_
      exact r_iret ok59 13 rfl rfl rfl h4
  · have h2 := h1.2 c2
    refine r_iconst (v := 2) ok59 5 rfl rfl rfl ?_
    exact r_iret ok59 6 rfl rfl rfl h2

theorem K59 {Θ : Th} {d : Nat} {σ : Mem} {Q : Po} {o : Nat} (h : G Θ (d + 1) 59 0 [some (.ref o)] [] σ Q) : Cm Θ (d + 1) 59 [.ref o] σ Q :=
  C_of_G okM59 (Nat.le_of_ble_eq_true rfl) rfl h

-- 60: LikeYears$Laws.write(II)Z
set_option maxRecDepth 100000 in
set_option maxHeartbeats 4000000 in
theorem B60_0 {Θ : Th} {d : Nat} {σ : Mem} {Q : Po} {o : Nat} {x1 : Int32} {x2 : Int32} (ho : (shq o).1 = 6)
    (h : ((500 ≤ (σ.1 o 8) → Q (some (.int 1)) σ) ∧ (¬ 500 ≤ (σ.1 o 8) → (vp_in (σ.1 o 8) 500 ∧ (vp_in ((sI σ (o + 4) ((σ.1 o 8).toNatClampNeg) x1).1 o 8) 500 ∧ Q (some (.int 1)) (sI (sI (sI σ (o + 4) ((σ.1 o 8).toNatClampNeg) x1) (o + 5) (((sI σ (o + 4) ((σ.1 o 8).toNatClampNeg) x1).1 o 8).toNatClampNeg) x2) o 8 (((sI (sI σ (o + 4) ((σ.1 o 8).toNatClampNeg) x1) (o + 5) (((sI σ (o + 4) ((σ.1 o 8).toNatClampNeg) x1).1 o 8).toNatClampNeg) x2).1 o 8) + 1))))))) :
    G Θ d 60 0 [some (.ref o), some (.int x1), some (.int x2)] [] σ Q := by
  refine r_aload_n ok60 0 rfl rfl rfl ?_
  refine r_getI ok60 1 rfl rfl ho rfl ?_
  refine r_sipush (v := 500) ok60 2 rfl rfl rfl ?_
  refine r_icmp_ge ok60 3 rfl rfl (fun c1 => ?_) (fun c1 => ?_)
  · have h1 := h.1 c1
    refine r_iconst (v := 1) ok60 22 rfl rfl rfl ?_
    exact r_zret ok60 23 rfl rfl rfl (Or.inr rfl) h1
  · have h1 := h.2 c1
    refine r_aload_n ok60 4 rfl rfl rfl ?_
    refine r_getF ok60 5 rfl rfl ho rfl ?_
    refine r_aload_n ok60 6 rfl rfl rfl ?_
    refine r_getI ok60 7 rfl rfl ho rfl ?_
    refine r_iload_n ok60 8 rfl rfl rfl ?_
    obtain ⟨c2, h2⟩ := h1
    refine r_iast ok60 9 rfl rfl (rel_shp ho (i := 26) rfl) c2 ?_
    refine r_aload_n ok60 10 rfl rfl rfl ?_
    refine r_getF ok60 11 rfl rfl ho rfl ?_
    refine r_aload_n ok60 12 rfl rfl rfl ?_
    refine r_getI ok60 13 rfl rfl ho rfl ?_
    refine r_iload_n ok60 14 rfl rfl rfl ?_
    obtain ⟨c3, h3⟩ := h2
    refine r_iast ok60 15 rfl rfl (rel_shp ho (i := 27) rfl) c3 ?_
    refine r_aload_n ok60 16 rfl rfl rfl ?_
    refine r_dup ok60 17 rfl rfl rfl ?_
    refine r_getI ok60 18 rfl rfl ho rfl ?_
    refine r_iconst (v := 1) ok60 19 rfl rfl rfl ?_
    refine r_iadd ok60 20 rfl rfl ?_
    refine r_putI ok60 21 rfl rfl ho rfl ?_
    refine r_iconst (v := 1) ok60 22 rfl rfl rfl ?_
    exact r_zret ok60 23 rfl rfl rfl (Or.inr rfl) h3

theorem K60 {Θ : Th} {d : Nat} {σ : Mem} {Q : Po} {o : Nat} {x1 : Int32} {x2 : Int32} (h : G Θ d 60 0 [some (.ref o), some (.int x1), some (.int x2)] [] σ Q) : Cm Θ d 60 [.ref o, .int x1, .int x2] σ Q :=
  C_of_G okM60 (Nat.le_of_ble_eq_true rfl) rfl h

-- 61: LikeYears$Laws.lineFor(LLikeYears$Book;I)I
set_option maxRecDepth 100000 in
set_option maxHeartbeats 4000000 in
theorem B61_0 {Θ : Th} {d : Nat} {σ : Mem} {Q : Po} {o : Nat} {r1 : Nat} {x2 : Int32} (ho : (shq o).1 = 6) (hp1 : (shq r1).1 = 1)
    (h : G Θ (d + 1) 61 5 [some (.ref o), some (.ref r1), some (.int x2), some (.int 0), some (.int 0)] [] σ Q) :
    G Θ (d + 1) 61 0 [some (.ref o), some (.ref r1), some (.int x2), none, none] [] σ Q := by
  refine r_iconst (v := 0) ok61 0 rfl rfl rfl ?_
  refine r_istore_n ok61 1 rfl rfl ?_
  refine r_iconst (v := 0) ok61 2 rfl rfl rfl ?_
  refine r_istore ok61 3 rfl rfl ?_
  exact h

set_option maxRecDepth 100000 in
set_option maxHeartbeats 4000000 in
theorem B61_5 {Θ : Th} {d : Nat} {σ : Mem} {Q : Po} {o : Nat} {r1 : Nat} {x2 : Int32} {x3 : Int32} {x4 : Int32} (ho : (shq o).1 = 6) (hp1 : (shq r1).1 = 1)
    (h : (((σ.1 o 2) ≤ x4 → Q (some (.int (-1))) σ) ∧ (¬ (σ.1 o 2) ≤ x4 → (vp_in x4 8 ∧ Ci Θ d 62 [.ref o, .ref r1, .int x2, .int x3, .int (σ.1 (o + 3) x4.toNatClampNeg)] σ (fun v3 σ3 => ((v3 = 0 → (vp_in x4 8 ∧ G Θ (d + 1) 61 5 [some (.ref o), some (.ref r1), some (.int x2), some (.int (σ3.1 (o + 3) x4.toNatClampNeg)), some (.int (x4 + 1))] [] σ3 Q)) ∧ (¬ v3 = 0 → Q (some (.int x4)) σ3))))))) :
    G Θ (d + 1) 61 5 [some (.ref o), some (.ref r1), some (.int x2), some (.int x3), some (.int x4)] [] σ Q := by
  refine r_iload ok61 4 rfl rfl rfl ?_
  refine r_aload_n ok61 5 rfl rfl rfl ?_
  refine r_getI ok61 6 rfl rfl ho rfl ?_
  refine r_icmp_ge ok61 7 rfl rfl (fun c1 => ?_) (fun c1 => ?_)
  · have h1 := h.1 c1
    refine r_iconst (v := (-1)) ok61 27 rfl rfl rfl ?_
    exact r_iret ok61 28 rfl rfl rfl h1
  · have h1 := h.2 c1
    refine r_aload_n ok61 8 rfl rfl rfl ?_
    refine r_aload_n ok61 9 rfl rfl rfl ?_
    refine r_iload_n ok61 10 rfl rfl rfl ?_
    refine r_iload_n ok61 11 rfl rfl rfl ?_
    refine r_aload_n ok61 12 rfl rfl rfl ?_
    refine r_getF ok61 13 rfl rfl ho rfl ?_
    refine r_iload ok61 14 rfl rfl rfl ?_
    obtain ⟨c2, h2⟩ := h1
    refine r_iald ok61 15 rfl rfl (rel_shp ho (i := 25) rfl) c2 ?_
    refine r_invVi (as := [.ref r1, .int x2, .int x3, .int (σ.1 (o + 3) x4.toNatClampNeg)]) (S := []) ok61 16 rfl rfl mf62 ho rfl (Nat.le_of_ble_eq_true rfl) rfl h2 (fun v3 σ3 h3 => ?_)
    refine r_if_eq ok61 17 rfl rfl (fun c4 => ?_) (fun c4 => ?_)
    · have h4 := h3.1 c4
      refine r_aload_n ok61 20 rfl rfl rfl ?_
      refine r_getF ok61 21 rfl rfl ho rfl ?_
      refine r_iload ok61 22 rfl rfl rfl ?_
      obtain ⟨c5, h5⟩ := h4
      refine r_iald ok61 23 rfl rfl (rel_shp ho (i := 25) rfl) c5 ?_
      refine r_istore_n ok61 24 rfl rfl ?_
      refine r_iinc (v := x4 + 1) ok61 25 rfl rfl rfl rfl ?_
      refine r_goto ok61 26 rfl rfl ?_
      exact h5
    · have h4 := h3.2 c4
      refine r_iload ok61 18 rfl rfl rfl ?_
      exact r_iret ok61 19 rfl rfl rfl h4

theorem K61 {Θ : Th} {d : Nat} {σ : Mem} {Q : Po} {o : Nat} {r1 : Nat} {x2 : Int32} (h : G Θ (d + 1) 61 0 [some (.ref o), some (.ref r1), some (.int x2), none, none] [] σ Q) : Cm Θ (d + 1) 61 [.ref o, .ref r1, .int x2] σ Q :=
  C_of_G okM61 (Nat.le_of_ble_eq_true rfl) rfl h

-- 62: LikeYears$Laws.worth(LLikeYears$Book;III)I
set_option maxRecDepth 100000 in
set_option maxHeartbeats 4000000 in
theorem B62_0 {Θ : Th} {d : Nat} {σ : Mem} {Q : Po} {o : Nat} {r1 : Nat} {x2 : Int32} {x3 : Int32} {x4 : Int32} (ho : (shq o).1 = 6) (hp1 : (shq r1).1 = 1)
    (h : G Θ (d + 1) 62 8 [some (.ref o), some (.ref r1), some (.int x2), none, some (.int x4), some (.int x3), none] [] (sI σ o 11 0) Q) :
    G Θ (d + 1) 62 0 [some (.ref o), some (.ref r1), some (.int x2), some (.int x3), some (.int x4), none, none] [] σ Q := by
  refine r_aload_n ok62 0 rfl rfl rfl ?_
  refine r_iconst (v := 0) ok62 1 rfl rfl rfl ?_
  refine r_putI ok62 2 rfl rfl ho rfl ?_
  refine r_iload_n ok62 3 rfl rfl rfl ?_
  refine r_istore ok62 4 rfl rfl ?_
  exact G.weak (L' := [some (.ref o), some (.ref r1), some (.int x2), none, some (.int x4), some (.int x3), none]) ⟨rfl, ⟨rfl, ⟨rfl, ⟨rfl, ⟨rfl, trivial⟩⟩⟩⟩⟩ h

set_option maxRecDepth 100000 in
set_option maxHeartbeats 4000000 in
theorem B62_8 {Θ : Th} {d : Nat} {σ : Mem} {Q : Po} {o : Nat} {r1 : Nat} {x2 : Int32} {x4 : Int32} {x5 : Int32} (ho : (shq o).1 = 6) (hp1 : (shq r1).1 = 1)
    (h : ((x4 ≤ x5 → Ci Θ d 64 [.ref o] σ (fun v2 σ2 => Q (some (.int v2)) σ2)) ∧ (¬ x4 ≤ x5 → (vp_in x5 500 ∧ ((6 ≤ (σ.1 (o + 4) x5.toNatClampNeg) → (vp_in x5 500 ∧ ((¬ (σ.1 (o + 4) x5.toNatClampNeg) = 6 → Ci Θ d 64 [.ref o] σ (fun v7 σ7 => (vp_in x5 500 ∧ Ci Θ d 64 [.ref o] σ7 (fun v9 σ9 => Ci Θ d 66 [.int (σ7.1 (o + 4) x5.toNatClampNeg), .int v9, .int v7] σ9 (fun v10 σ10 => Cv Θ d 63 [.ref o, .int v10] σ10 (fun σ11 => G Θ (d + 1) 62 8 [some (.ref o), some (.ref r1), some (.int x2), none, some (.int x4), some (.int (x5 + 1)), none] [] σ11 Q)))))) ∧ ((σ.1 (o + 4) x5.toNatClampNeg) = 6 → Ci Θ d 64 [.ref o] σ (fun v12 σ12 => ((¬ v12 = 0 → Cv Θ d 63 [.ref o, .int 0] σ12 (fun σ14 => G Θ (d + 1) 62 8 [some (.ref o), some (.ref r1), some (.int x2), none, some (.int x4), some (.int (x5 + 1)), none] [] σ14 Q)) ∧ (v12 = 0 → Cv Θ d 63 [.ref o, .int 1] σ12 (fun σ15 => G Θ (d + 1) 62 8 [some (.ref o), some (.ref r1), some (.int x2), none, some (.int x4), some (.int (x5 + 1)), none] [] σ15 Q)))))))) ∧ (¬ 6 ≤ (σ.1 (o + 4) x5.toNatClampNeg) → (vp_in x5 500 ∧ (vp_in x5 500 ∧ Ci Θ d 65 [.ref r1, .int x2, .int (σ.1 (o + 4) x5.toNatClampNeg), .int (σ.1 (o + 5) x5.toNatClampNeg)] σ (fun v18 σ18 => Cv Θ d 63 [.ref o, .int v18] σ18 (fun σ19 => G Θ (d + 1) 62 8 [some (.ref o), some (.ref r1), some (.int x2), none, some (.int x4), some (.int (x5 + 1)), none] [] σ19 Q)))))))))) :
    G Θ (d + 1) 62 8 [some (.ref o), some (.ref r1), some (.int x2), none, some (.int x4), some (.int x5), none] [] σ Q := by
  refine r_iload ok62 5 rfl rfl rfl ?_
  refine r_iload ok62 6 rfl rfl rfl ?_
  refine r_icmp_ge ok62 7 rfl rfl (fun c1 => ?_) (fun c1 => ?_)
  · have h1 := h.1 c1
    refine r_aload_n ok62 58 rfl rfl rfl ?_
    refine r_invVi (as := []) (S := []) ok62 59 rfl rfl mf64 ho rfl (Nat.le_of_ble_eq_true rfl) rfl h1 (fun v2 σ2 h2 => ?_)
    exact r_iret ok62 60 rfl rfl rfl h2
  · have h1 := h.2 c1
    refine r_aload_n ok62 8 rfl rfl rfl ?_
    refine r_getF ok62 9 rfl rfl ho rfl ?_
    refine r_iload ok62 10 rfl rfl rfl ?_
    obtain ⟨c3, h3⟩ := h1
    refine r_iald ok62 11 rfl rfl (rel_shp ho (i := 26) rfl) c3 ?_
    refine r_bipush (v := 6) ok62 12 rfl rfl rfl ?_
    refine r_icmp_ge ok62 13 rfl rfl (fun c4 => ?_) (fun c4 => ?_)
    · have h4 := h3.1 c4
      refine r_aload_n ok62 28 rfl rfl rfl ?_
      refine r_getF ok62 29 rfl rfl ho rfl ?_
      refine r_iload ok62 30 rfl rfl rfl ?_
      obtain ⟨c5, h5⟩ := h4
      refine r_iald ok62 31 rfl rfl (rel_shp ho (i := 26) rfl) c5 ?_
      refine r_bipush (v := 6) ok62 32 rfl rfl rfl ?_
      refine r_icmp_ne ok62 33 rfl rfl (fun c6 => ?_) (fun c6 => ?_)
      · have h6 := h5.1 c6
        refine r_aload_n ok62 43 rfl rfl rfl ?_
        refine r_invVi (as := []) (S := []) ok62 44 rfl rfl mf64 ho rfl (Nat.le_of_ble_eq_true rfl) rfl h6 (fun v7 σ7 h7 => ?_)
        refine r_istore ok62 45 rfl rfl ?_
        refine r_aload_n ok62 46 rfl rfl rfl ?_
        refine r_aload_n ok62 47 rfl rfl rfl ?_
        refine r_getF ok62 48 rfl rfl ho rfl ?_
        refine r_iload ok62 49 rfl rfl rfl ?_
        obtain ⟨c8, h8⟩ := h7
        refine r_iald ok62 50 rfl rfl (rel_shp ho (i := 26) rfl) c8 ?_
        refine r_aload_n ok62 51 rfl rfl rfl ?_
        refine r_invVi (as := []) (S := [.int (σ7.1 (o + 4) x5.toNatClampNeg), .ref o]) ok62 52 rfl rfl mf64 ho rfl (Nat.le_of_ble_eq_true rfl) rfl h8 (fun v9 σ9 h9 => ?_)
        refine r_iload ok62 53 rfl rfl rfl ?_
        refine r_invSi (as := [.int (σ7.1 (o + 4) x5.toNatClampNeg), .int v9, .int v7]) (S := [.ref o]) ok62 54 rfl rfl mf66 rfl (Nat.le_of_ble_eq_true rfl) rfl h9 (fun v10 σ10 h10 => ?_)
        refine r_invVv (as := [.int v10]) (S := []) ok62 55 rfl rfl mf63 ho rfl (Nat.le_of_ble_eq_true rfl) rfl h10 (fun σ11 h11 => ?_)
        refine r_iinc (v := x5 + 1) ok62 56 rfl rfl rfl rfl ?_
        refine r_goto ok62 57 rfl rfl ?_
        exact G.weak (L' := [some (.ref o), some (.ref r1), some (.int x2), none, some (.int x4), some (.int (x5 + 1)), none]) ⟨rfl, ⟨rfl, ⟨rfl, ⟨rfl, ⟨rfl, trivial⟩⟩⟩⟩⟩ h11
      · have h6 := h5.2 c6
        refine r_aload_n ok62 34 rfl rfl rfl ?_
        refine r_aload_n ok62 35 rfl rfl rfl ?_
        refine r_invVi (as := []) (S := [.ref o]) ok62 36 rfl rfl mf64 ho rfl (Nat.le_of_ble_eq_true rfl) rfl h6 (fun v12 σ12 h12 => ?_)
        refine r_if_ne ok62 37 rfl rfl (fun c13 => ?_) (fun c13 => ?_)
        · have h13 := h12.1 c13
          refine r_iconst (v := 0) ok62 40 rfl rfl rfl ?_
          refine r_invVv (as := [.int 0]) (S := []) ok62 41 rfl rfl mf63 ho rfl (Nat.le_of_ble_eq_true rfl) rfl h13 (fun σ14 h14 => ?_)
          refine r_goto ok62 42 rfl rfl ?_
          refine r_iinc (v := x5 + 1) ok62 56 rfl rfl rfl rfl ?_
          refine r_goto ok62 57 rfl rfl ?_
          exact h14
        · have h13 := h12.2 c13
          refine r_iconst (v := 1) ok62 38 rfl rfl rfl ?_
          refine r_goto ok62 39 rfl rfl ?_
          refine r_invVv (as := [.int 1]) (S := []) ok62 41 rfl rfl mf63 ho rfl (Nat.le_of_ble_eq_true rfl) rfl h13 (fun σ15 h15 => ?_)
          refine r_goto ok62 42 rfl rfl ?_
          refine r_iinc (v := x5 + 1) ok62 56 rfl rfl rfl rfl ?_
          refine r_goto ok62 57 rfl rfl ?_
          exact h15
    · have h4 := h3.2 c4
      refine r_aload_n ok62 14 rfl rfl rfl ?_
      refine r_aload_n ok62 15 rfl rfl rfl ?_
      refine r_iload_n ok62 16 rfl rfl rfl ?_
      refine r_aload_n ok62 17 rfl rfl rfl ?_
      refine r_getF ok62 18 rfl rfl ho rfl ?_
      refine r_iload ok62 19 rfl rfl rfl ?_
      obtain ⟨c16, h16⟩ := h4
      refine r_iald ok62 20 rfl rfl (rel_shp ho (i := 26) rfl) c16 ?_
      refine r_aload_n ok62 21 rfl rfl rfl ?_
      refine r_getF ok62 22 rfl rfl ho rfl ?_
      refine r_iload ok62 23 rfl rfl rfl ?_
      obtain ⟨c17, h17⟩ := h16
      refine r_iald ok62 24 rfl rfl (rel_shp ho (i := 27) rfl) c17 ?_
      refine r_invSi (as := [.ref r1, .int x2, .int (σ.1 (o + 4) x5.toNatClampNeg), .int (σ.1 (o + 5) x5.toNatClampNeg)]) (S := [.ref o]) ok62 25 rfl rfl mf65 rfl (Nat.le_of_ble_eq_true rfl) rfl h17 (fun v18 σ18 h18 => ?_)
      refine r_invVv (as := [.int v18]) (S := []) ok62 26 rfl rfl mf63 ho rfl (Nat.le_of_ble_eq_true rfl) rfl h18 (fun σ19 h19 => ?_)
      refine r_goto ok62 27 rfl rfl ?_
      refine r_iinc (v := x5 + 1) ok62 56 rfl rfl rfl rfl ?_
      refine r_goto ok62 57 rfl rfl ?_
      exact h19

theorem K62 {Θ : Th} {d : Nat} {σ : Mem} {Q : Po} {o : Nat} {r1 : Nat} {x2 : Int32} {x3 : Int32} {x4 : Int32} (h : G Θ (d + 1) 62 0 [some (.ref o), some (.ref r1), some (.int x2), some (.int x3), some (.int x4), none, none] [] σ Q) : Cm Θ (d + 1) 62 [.ref o, .ref r1, .int x2, .int x3, .int x4] σ Q :=
  C_of_G okM62 (Nat.le_of_ble_eq_true rfl) rfl h

-- 63: LikeYears$Laws.push(I)V
set_option maxRecDepth 100000 in
set_option maxHeartbeats 4000000 in
theorem B63_0 {Θ : Th} {d : Nat} {σ : Mem} {Q : Po} {o : Nat} {x1 : Int32} (ho : (shq o).1 = 6)
    (h : ((50 ≤ (σ.1 o 11) → Q none σ) ∧ (¬ 50 ≤ (σ.1 o 11) → (vp_in (σ.1 o 11) 50 ∧ Q none (sI (sI σ (o + 6) ((σ.1 o 11).toNatClampNeg) x1) o 11 (((sI σ (o + 6) ((σ.1 o 11).toNatClampNeg) x1).1 o 11) + 1)))))) :
    G Θ d 63 0 [some (.ref o), some (.int x1)] [] σ Q := by
  refine r_aload_n ok63 0 rfl rfl rfl ?_
  refine r_getI ok63 1 rfl rfl ho rfl ?_
  refine r_bipush (v := 50) ok63 2 rfl rfl rfl ?_
  refine r_icmp_ge ok63 3 rfl rfl (fun c1 => ?_) (fun c1 => ?_)
  · have h1 := h.1 c1
    exact r_ret ok63 16 rfl rfl rfl h1
  · have h1 := h.2 c1
    refine r_aload_n ok63 4 rfl rfl rfl ?_
    refine r_getF ok63 5 rfl rfl ho rfl ?_
    refine r_aload_n ok63 6 rfl rfl rfl ?_
    refine r_getI ok63 7 rfl rfl ho rfl ?_
    refine r_iload_n ok63 8 rfl rfl rfl ?_
    obtain ⟨c2, h2⟩ := h1
    refine r_iast ok63 9 rfl rfl (rel_shp ho (i := 28) rfl) c2 ?_
    refine r_aload_n ok63 10 rfl rfl rfl ?_
    refine r_dup ok63 11 rfl rfl rfl ?_
    refine r_getI ok63 12 rfl rfl ho rfl ?_
    refine r_iconst (v := 1) ok63 13 rfl rfl rfl ?_
    refine r_iadd ok63 14 rfl rfl ?_
    refine r_putI ok63 15 rfl rfl ho rfl ?_
    exact r_ret ok63 16 rfl rfl rfl h2

theorem K63 {Θ : Th} {d : Nat} {σ : Mem} {Q : Po} {o : Nat} {x1 : Int32} (h : G Θ d 63 0 [some (.ref o), some (.int x1)] [] σ Q) : Cm Θ d 63 [.ref o, .int x1] σ Q :=
  C_of_G okM63 (Nat.le_of_ble_eq_true rfl) rfl h

-- 64: LikeYears$Laws.pop()I
set_option maxRecDepth 100000 in
set_option maxHeartbeats 4000000 in
theorem B64_0 {Θ : Th} {d : Nat} {σ : Mem} {Q : Po} {o : Nat} (ho : (shq o).1 = 6)
    (h : ((¬ (σ.1 o 11) = 0 → (vp_in ((sI σ o 11 ((σ.1 o 11) - 1)).1 o 11) 50 ∧ Q (some (.int ((sI σ o 11 ((σ.1 o 11) - 1)).1 (o + 6) ((sI σ o 11 ((σ.1 o 11) - 1)).1 o 11).toNatClampNeg))) (sI σ o 11 ((σ.1 o 11) - 1)))) ∧ ((σ.1 o 11) = 0 → Q (some (.int 0)) σ))) :
    G Θ d 64 0 [some (.ref o)] [] σ Q := by
  refine r_aload_n ok64 0 rfl rfl rfl ?_
  refine r_getI ok64 1 rfl rfl ho rfl ?_
  refine r_if_ne ok64 2 rfl rfl (fun c1 => ?_) (fun c1 => ?_)
  · have h1 := h.1 c1
    refine r_aload_n ok64 5 rfl rfl rfl ?_
    refine r_dup ok64 6 rfl rfl rfl ?_
    refine r_getI ok64 7 rfl rfl ho rfl ?_
    refine r_iconst (v := 1) ok64 8 rfl rfl rfl ?_
    refine r_isub ok64 9 rfl rfl ?_
    refine r_putI ok64 10 rfl rfl ho rfl ?_
    refine r_aload_n ok64 11 rfl rfl rfl ?_
    refine r_getF ok64 12 rfl rfl ho rfl ?_
    refine r_aload_n ok64 13 rfl rfl rfl ?_
    refine r_getI ok64 14 rfl rfl ho rfl ?_
    obtain ⟨c2, h2⟩ := h1
    refine r_iald ok64 15 rfl rfl (rel_shp ho (i := 28) rfl) c2 ?_
    exact r_iret ok64 16 rfl rfl rfl h2
  · have h1 := h.2 c1
    refine r_iconst (v := 0) ok64 3 rfl rfl rfl ?_
    exact r_iret ok64 4 rfl rfl rfl h1

theorem K64 {Θ : Th} {d : Nat} {σ : Mem} {Q : Po} {o : Nat} (h : G Θ d 64 0 [some (.ref o)] [] σ Q) : Cm Θ d 64 [.ref o] σ Q :=
  C_of_G okM64 (Nat.le_of_ble_eq_true rfl) rfl h

-- 65: LikeYears$Laws.fact(LLikeYears$Book;III)I
set_option maxRecDepth 100000 in
set_option maxHeartbeats 4000000 in
theorem B65_0 {Θ : Th} {d : Nat} {σ : Mem} {Q : Po} {r0 : Nat} {x1 : Int32} {x2 : Int32} {x3 : Int32} (hp0 : (shq r0).1 = 1)
    (h : (((x2.toInt < 1 ∨ 5 < x2.toInt) → Q (some (.int x3)) σ) ∧ (x2.toInt = 1 → Ci Θ d 15 [.ref r0, .int x1, .int x3] σ (fun v2 σ2 => Q (some (.int v2)) σ2)) ∧ (x2.toInt = 2 → (vp_in x1 16 ∧ Q (some (.int (σ.1 (r0 + 3) x1.toNatClampNeg))) σ)) ∧ (x2.toInt = 3 → (vp_in x1 16 ∧ Q (some (.int (σ.1 (r0 + 4) x1.toNatClampNeg))) σ)) ∧ (x2.toInt = 4 → (vp_in x1 16 ∧ Q (some (.int (σ.1 (r0 + 5) x1.toNatClampNeg))) σ)) ∧ (x2.toInt = 5 → (vp_in x1 16 ∧ Q (some (.int (σ.1 (r0 + 6) x1.toNatClampNeg))) σ)))) :
    G Θ (d + 1) 65 0 [some (.ref r0), some (.int x1), some (.int x2), some (.int x3)] [] σ Q := by
  refine r_iload_n ok65 0 rfl rfl rfl ?_
  refine r_tsw (tl := [36, 43, 50, 57, 64]) ok65 1 rfl rfl rfl rfl (fun c1 => ?_) ?_
  · have h1 := h.1 c1
    refine r_iload_n ok65 27 rfl rfl rfl ?_
    exact r_iret ok65 28 rfl rfl rfl h1
  · refine And.intro (fun c1 => ?_) ?_
    · have h1 := h.2.1 c1
      refine r_aload_n ok65 2 rfl rfl rfl ?_
      refine r_iload_n ok65 3 rfl rfl rfl ?_
      refine r_iload_n ok65 4 rfl rfl rfl ?_
      refine r_invVi (as := [.int x1, .int x3]) (S := []) ok65 5 rfl rfl mf15 hp0 rfl (Nat.le_of_ble_eq_true rfl) rfl h1 (fun v2 σ2 h2 => ?_)
      exact r_iret ok65 6 rfl rfl rfl h2
    · refine And.intro (fun c1 => ?_) ?_
      · have h1 := h.2.2.1 c1
        refine r_aload_n ok65 7 rfl rfl rfl ?_
        refine r_getF ok65 8 rfl rfl hp0 rfl ?_
        refine r_iload_n ok65 9 rfl rfl rfl ?_
        obtain ⟨c3, h3⟩ := h1
        refine r_iald ok65 10 rfl rfl (rel_shp hp0 (i := 6) rfl) c3 ?_
        exact r_iret ok65 11 rfl rfl rfl h3
      · refine And.intro (fun c1 => ?_) ?_
        · have h1 := h.2.2.2.1 c1
          refine r_aload_n ok65 12 rfl rfl rfl ?_
          refine r_getF ok65 13 rfl rfl hp0 rfl ?_
          refine r_iload_n ok65 14 rfl rfl rfl ?_
          obtain ⟨c4, h4⟩ := h1
          refine r_iald ok65 15 rfl rfl (rel_shp hp0 (i := 7) rfl) c4 ?_
          exact r_iret ok65 16 rfl rfl rfl h4
        · refine And.intro (fun c1 => ?_) ?_
          · have h1 := h.2.2.2.2.1 c1
            refine r_aload_n ok65 17 rfl rfl rfl ?_
            refine r_getF ok65 18 rfl rfl hp0 rfl ?_
            refine r_iload_n ok65 19 rfl rfl rfl ?_
            obtain ⟨c5, h5⟩ := h1
            refine r_iald ok65 20 rfl rfl (rel_shp hp0 (i := 8) rfl) c5 ?_
            exact r_iret ok65 21 rfl rfl rfl h5
          · intro c1
            have h1 := h.2.2.2.2.2 c1
            refine r_aload_n ok65 22 rfl rfl rfl ?_
            refine r_getF ok65 23 rfl rfl hp0 rfl ?_
            refine r_iload_n ok65 24 rfl rfl rfl ?_
            obtain ⟨c6, h6⟩ := h1
            refine r_iald ok65 25 rfl rfl (rel_shp hp0 (i := 9) rfl) c6 ?_
            exact r_iret ok65 26 rfl rfl rfl h6

theorem K65 {Θ : Th} {d : Nat} {σ : Mem} {Q : Po} {r0 : Nat} {x1 : Int32} {x2 : Int32} {x3 : Int32} (h : G Θ (d + 1) 65 0 [some (.ref r0), some (.int x1), some (.int x2), some (.int x3)] [] σ Q) : Cm Θ (d + 1) 65 [.ref r0, .int x1, .int x2, .int x3] σ Q :=
  C_of_G okM65 (Nat.le_of_ble_eq_true rfl) rfl h

-- 66: LikeYears$Laws.join(III)I
set_option maxRecDepth 100000 in
set_option maxHeartbeats 4000000 in
theorem B66_0 {Θ : Th} {d : Nat} {σ : Mem} {Q : Po} {x0 : Int32} {x1 : Int32} {x2 : Int32} 
    (h : (((x0.toInt < 12 ∨ 14 < x0.toInt) → Ci Θ d 67 [.int x0, .int x1, .int x2] σ (fun v2 σ2 => ((v2 = 0 → Q (some (.int 0)) σ2) ∧ (¬ v2 = 0 → Q (some (.int 1)) σ2)))) ∧ (x0.toInt = 12 → Q (some (.int (x1 + x2))) σ) ∧ (x0.toInt = 13 → Q (some (.int (x1 - x2))) σ) ∧ (x0.toInt = 14 → Q (some (.int (x1 * x2))) σ))) :
    G Θ (d + 1) 66 0 [some (.int x0), some (.int x1), some (.int x2)] [] σ Q := by
  refine r_iload_n ok66 0 rfl rfl rfl ?_
  refine r_tsw (tl := [28, 32, 36]) ok66 1 rfl rfl rfl rfl (fun c1 => ?_) ?_
  · have h1 := h.1 c1
    refine r_iload_n ok66 14 rfl rfl rfl ?_
    refine r_iload_n ok66 15 rfl rfl rfl ?_
    refine r_iload_n ok66 16 rfl rfl rfl ?_
    refine r_invSi (as := [.int x0, .int x1, .int x2]) (S := []) ok66 17 rfl rfl mf67 rfl (Nat.le_of_ble_eq_true rfl) rfl h1 (fun v2 σ2 h2 => ?_)
    refine r_if_eq ok66 18 rfl rfl (fun c3 => ?_) (fun c3 => ?_)
    · have h3 := h2.1 c3
      refine r_iconst (v := 0) ok66 21 rfl rfl rfl ?_
      exact r_iret ok66 22 rfl rfl rfl h3
    · have h3 := h2.2 c3
      refine r_iconst (v := 1) ok66 19 rfl rfl rfl ?_
      refine r_goto ok66 20 rfl rfl ?_
      exact r_iret ok66 22 rfl rfl rfl h3
  · refine And.intro (fun c1 => ?_) ?_
    · have h1 := h.2.1 c1
      refine r_iload_n ok66 2 rfl rfl rfl ?_
      refine r_iload_n ok66 3 rfl rfl rfl ?_
      refine r_iadd ok66 4 rfl rfl ?_
      exact r_iret ok66 5 rfl rfl rfl h1
    · refine And.intro (fun c1 => ?_) ?_
      · have h1 := h.2.2.1 c1
        refine r_iload_n ok66 6 rfl rfl rfl ?_
        refine r_iload_n ok66 7 rfl rfl rfl ?_
        refine r_isub ok66 8 rfl rfl ?_
        exact r_iret ok66 9 rfl rfl rfl h1
      · intro c1
        have h1 := h.2.2.2 c1
        refine r_iload_n ok66 10 rfl rfl rfl ?_
        refine r_iload_n ok66 11 rfl rfl rfl ?_
        refine r_imul ok66 12 rfl rfl ?_
        exact r_iret ok66 13 rfl rfl rfl h1

theorem K66 {Θ : Th} {d : Nat} {σ : Mem} {Q : Po} {x0 : Int32} {x1 : Int32} {x2 : Int32} (h : G Θ (d + 1) 66 0 [some (.int x0), some (.int x1), some (.int x2)] [] σ Q) : Cm Θ (d + 1) 66 [.int x0, .int x1, .int x2] σ Q :=
  C_of_G okM66 (Nat.le_of_ble_eq_true rfl) rfl h

-- 67: LikeYears$Laws.holds(III)Z
set_option maxRecDepth 100000 in
set_option maxHeartbeats 4000000 in
theorem B67_0 {Θ : Th} {d : Nat} {σ : Mem} {Q : Po} {x0 : Int32} {x1 : Int32} {x2 : Int32} 
    (h : (((x0.toInt < 8 ∨ 11 < x0.toInt) → ((¬ x1 = 0 → Q (some (.int 1)) σ) ∧ (x1 = 0 → ((x2 = 0 → Q (some (.int 0)) σ) ∧ (¬ x2 = 0 → Q (some (.int 1)) σ))))) ∧ (x0.toInt = 8 → ((x1 = 0 → Q (some (.int 0)) σ) ∧ (¬ x1 = 0 → ((x2 = 0 → Q (some (.int 0)) σ) ∧ (¬ x2 = 0 → Q (some (.int 1)) σ))))) ∧ (x0.toInt = 9 → ((x2 ≤ x1 → Q (some (.int 0)) σ) ∧ (¬ x2 ≤ x1 → Q (some (.int 1)) σ))) ∧ (x0.toInt = 10 → ((x1 ≤ x2 → Q (some (.int 0)) σ) ∧ (¬ x1 ≤ x2 → Q (some (.int 1)) σ))) ∧ (x0.toInt = 11 → ((¬ x1 = x2 → Q (some (.int 0)) σ) ∧ (x1 = x2 → Q (some (.int 1)) σ))))) :
    G Θ d 67 0 [some (.int x0), some (.int x1), some (.int x2)] [] σ Q := by
  refine r_iload_n ok67 0 rfl rfl rfl ?_
  refine r_tsw (tl := [65, 32, 43, 54]) ok67 1 rfl rfl rfl rfl (fun c1 => ?_) ?_
  · have h1 := h.1 c1
    refine r_iload_n ok67 31 rfl rfl rfl ?_
    refine r_if_ne ok67 32 rfl rfl (fun c2 => ?_) (fun c2 => ?_)
    · have h2 := h1.1 c2
      refine r_iconst (v := 1) ok67 35 rfl rfl rfl ?_
      refine r_goto ok67 36 rfl rfl ?_
      exact r_zret ok67 38 rfl rfl rfl (Or.inr rfl) h2
    · have h2 := h1.2 c2
      refine r_iload_n ok67 33 rfl rfl rfl ?_
      refine r_if_eq ok67 34 rfl rfl (fun c3 => ?_) (fun c3 => ?_)
      · have h3 := h2.1 c3
        refine r_iconst (v := 0) ok67 37 rfl rfl rfl ?_
        exact r_zret ok67 38 rfl rfl rfl (Or.inl rfl) h3
      · have h3 := h2.2 c3
        refine r_iconst (v := 1) ok67 35 rfl rfl rfl ?_
        refine r_goto ok67 36 rfl rfl ?_
        exact r_zret ok67 38 rfl rfl rfl (Or.inr rfl) h3
  · refine And.intro (fun c1 => ?_) ?_
    · have h1 := h.2.1 c1
      refine r_iload_n ok67 23 rfl rfl rfl ?_
      refine r_if_eq ok67 24 rfl rfl (fun c4 => ?_) (fun c4 => ?_)
      · have h4 := h1.1 c4
        refine r_iconst (v := 0) ok67 29 rfl rfl rfl ?_
        exact r_zret ok67 30 rfl rfl rfl (Or.inl rfl) h4
      · have h4 := h1.2 c4
        refine r_iload_n ok67 25 rfl rfl rfl ?_
        refine r_if_eq ok67 26 rfl rfl (fun c5 => ?_) (fun c5 => ?_)
        · have h5 := h4.1 c5
          refine r_iconst (v := 0) ok67 29 rfl rfl rfl ?_
          exact r_zret ok67 30 rfl rfl rfl (Or.inl rfl) h5
        · have h5 := h4.2 c5
          refine r_iconst (v := 1) ok67 27 rfl rfl rfl ?_
          refine r_goto ok67 28 rfl rfl ?_
          exact r_zret ok67 30 rfl rfl rfl (Or.inr rfl) h5
    · refine And.intro (fun c1 => ?_) ?_
      · have h1 := h.2.2.1 c1
        refine r_iload_n ok67 2 rfl rfl rfl ?_
        refine r_iload_n ok67 3 rfl rfl rfl ?_
        refine r_icmp_ge ok67 4 rfl rfl (fun c6 => ?_) (fun c6 => ?_)
        · have h6 := h1.1 c6
          refine r_iconst (v := 0) ok67 7 rfl rfl rfl ?_
          exact r_zret ok67 8 rfl rfl rfl (Or.inl rfl) h6
        · have h6 := h1.2 c6
          refine r_iconst (v := 1) ok67 5 rfl rfl rfl ?_
          refine r_goto ok67 6 rfl rfl ?_
          exact r_zret ok67 8 rfl rfl rfl (Or.inr rfl) h6
      · refine And.intro (fun c1 => ?_) ?_
        · have h1 := h.2.2.2.1 c1
          refine r_iload_n ok67 9 rfl rfl rfl ?_
          refine r_iload_n ok67 10 rfl rfl rfl ?_
          refine r_icmp_le ok67 11 rfl rfl (fun c7 => ?_) (fun c7 => ?_)
          · have h7 := h1.1 c7
            refine r_iconst (v := 0) ok67 14 rfl rfl rfl ?_
            exact r_zret ok67 15 rfl rfl rfl (Or.inl rfl) h7
          · have h7 := h1.2 c7
            refine r_iconst (v := 1) ok67 12 rfl rfl rfl ?_
            refine r_goto ok67 13 rfl rfl ?_
            exact r_zret ok67 15 rfl rfl rfl (Or.inr rfl) h7
        · intro c1
          have h1 := h.2.2.2.2 c1
          refine r_iload_n ok67 16 rfl rfl rfl ?_
          refine r_iload_n ok67 17 rfl rfl rfl ?_
          refine r_icmp_ne ok67 18 rfl rfl (fun c8 => ?_) (fun c8 => ?_)
          · have h8 := h1.1 c8
            refine r_iconst (v := 0) ok67 21 rfl rfl rfl ?_
            exact r_zret ok67 22 rfl rfl rfl (Or.inl rfl) h8
          · have h8 := h1.2 c8
            refine r_iconst (v := 1) ok67 19 rfl rfl rfl ?_
            refine r_goto ok67 20 rfl rfl ?_
            exact r_zret ok67 22 rfl rfl rfl (Or.inr rfl) h8

theorem K67 {Θ : Th} {d : Nat} {σ : Mem} {Q : Po} {x0 : Int32} {x1 : Int32} {x2 : Int32} (h : G Θ d 67 0 [some (.int x0), some (.int x1), some (.int x2)] [] σ Q) : Cm Θ d 67 [.int x0, .int x1, .int x2] σ Q :=
  C_of_G okM67 (Nat.le_of_ble_eq_true rfl) rfl h

-- 68: LikeYears$Nearest.fitSquares(LLikeYears$Book;[II)V
set_option maxRecDepth 100000 in
set_option maxHeartbeats 4000000 in
theorem B68_0 {Θ : Th} {d : Nat} {σ : Mem} {Q : Po} {o : Nat} {r1 : Nat} {r2 n2 : Nat} {x3 : Int32} (ho : (shq o).1 = 7) (hp1 : (shq r1).1 = 1) (hp2 : shq r2 = (20, n2))
    (h : Cv Θ d 47 [.ref (o + 4), .long 0, .long 1] σ (fun σ1 => ((¬ x3 = 0 → G Θ (d + 1) 68 30 [some (.ref o), some (.ref r1), some (.ref r2), none, some (.int 1), some (.int 0), none, none] [] (sI σ1 (o + 7) ((0 : Int32).toNatClampNeg) x3) Q) ∧ (x3 = 0 → G Θ (d + 1) 68 30 [some (.ref o), some (.ref r1), some (.ref r2), none, some (.int 0), some (.int 0), none, none] [] (sI σ1 (o + 7) ((0 : Int32).toNatClampNeg) x3) Q)))) :
    G Θ (d + 1) 68 0 [some (.ref o), some (.ref r1), some (.ref r2), some (.int x3), none, none, none, none] [] σ Q := by
  refine r_aload_n ok68 0 rfl rfl rfl ?_
  refine r_getF ok68 1 rfl rfl ho rfl ?_
  refine r_lconst (v := 0) ok68 2 rfl rfl rfl ?_
  refine r_lconst (v := 1) ok68 3 rfl rfl rfl ?_
  refine r_invVv (as := [.long 0, .long 1]) (S := []) ok68 4 rfl rfl mf47 (congrArg Prod.fst (rel_shp ho (i := 32) rfl)) rfl (Nat.le_of_ble_eq_true rfl) rfl h (fun σ1 h1 => ?_)
  refine r_aload_n ok68 5 rfl rfl rfl ?_
  refine r_getF ok68 6 rfl rfl ho rfl ?_
  refine r_iconst (v := 0) ok68 7 rfl rfl rfl ?_
  refine r_iload_n ok68 8 rfl rfl rfl ?_
  refine r_iast ok68 9 rfl rfl (rel_shp ho (i := 35) rfl) (by unfold vp_in; decide) ?_
  refine r_iload_n ok68 10 rfl rfl rfl ?_
  refine r_if_ne ok68 11 rfl rfl (fun c3 => ?_) (fun c3 => ?_)
  · have h3 := h1.1 c3
    refine r_iconst (v := 1) ok68 14 rfl rfl rfl ?_
    refine r_istore ok68 15 rfl rfl ?_
    refine r_iconst (v := 0) ok68 16 rfl rfl rfl ?_
    refine r_istore ok68 17 rfl rfl ?_
    exact G.weak (L' := [some (.ref o), some (.ref r1), some (.ref r2), none, some (.int 1), some (.int 0), none, none]) ⟨rfl, ⟨rfl, ⟨rfl, ⟨rfl, ⟨rfl, trivial⟩⟩⟩⟩⟩ h3
  · have h3 := h1.2 c3
    refine r_iconst (v := 0) ok68 12 rfl rfl rfl ?_
    refine r_goto ok68 13 rfl rfl ?_
    refine r_istore ok68 15 rfl rfl ?_
    refine r_iconst (v := 0) ok68 16 rfl rfl rfl ?_
    refine r_istore ok68 17 rfl rfl ?_
    exact G.weak (L' := [some (.ref o), some (.ref r1), some (.ref r2), none, some (.int 0), some (.int 0), none, none]) ⟨rfl, ⟨rfl, ⟨rfl, ⟨rfl, ⟨rfl, trivial⟩⟩⟩⟩⟩ h3

set_option maxRecDepth 100000 in
set_option maxHeartbeats 4000000 in
theorem B68_30 {Θ : Th} {d : Nat} {σ : Mem} {Q : Po} {o : Nat} {r1 : Nat} {r2 n2 : Nat} {x4 : Int32} {x5 : Int32} (ho : (shq o).1 = 7) (hp1 : (shq r1).1 = 1) (hp2 : shq r2 = (20, n2))
    (h : ((32 ≤ x5 → Q none σ) ∧ (¬ 32 ≤ x5 → ((x4 ≤ 0 → Q none σ) ∧ (¬ x4 ≤ 0 → (vp_in (x4 - 1) 17 ∧ Ci Θ d 69 [.ref o, .ref r1, .ref r2, .int (σ.1 (o + 7) (x4 - 1).toNatClampNeg)] σ (fun v4 σ4 => ((¬ v4 = 0 → (vp_in (x4 - 1) 17 ∧ (vp_in x4 17 ∧ G Θ (d + 1) 68 30 [some (.ref o), some (.ref r1), some (.ref r2), none, some (.int (x4 + 1)), some (.int (x5 + 1)), none, none] [] (sI (sI σ4 (o + 7) ((x4 - 1).toNatClampNeg) ((σ.1 (o + 7) (x4 - 1).toNatClampNeg) &&& (v4 ^^^ (-1)))) (o + 7) (x4.toNatClampNeg) v4) Q))) ∧ (v4 = 0 → Cv Θ d 70 [.ref o, .ref r1, .int (σ.1 (o + 7) (x4 - 1).toNatClampNeg)] σ4 (fun σ8 => G Θ (d + 1) 68 30 [some (.ref o), some (.ref r1), some (.ref r2), none, some (.int (x4 + (-1))), some (.int (x5 + 1)), none, none] [] σ8 Q)))))))))) :
    G Θ (d + 1) 68 30 [some (.ref o), some (.ref r1), some (.ref r2), none, some (.int x4), some (.int x5), none, none] [] σ Q := by
  refine r_iload ok68 18 rfl rfl rfl ?_
  refine r_bipush (v := 32) ok68 19 rfl rfl rfl ?_
  refine r_icmp_ge ok68 20 rfl rfl (fun c1 => ?_) (fun c1 => ?_)
  · have h1 := h.1 c1
    exact r_ret ok68 63 rfl rfl rfl h1
  · have h1 := h.2 c1
    refine r_iload ok68 21 rfl rfl rfl ?_
    refine r_if_le ok68 22 rfl rfl (fun c2 => ?_) (fun c2 => ?_)
    · have h2 := h1.1 c2
      exact r_ret ok68 63 rfl rfl rfl h2
    · have h2 := h1.2 c2
      refine r_aload_n ok68 23 rfl rfl rfl ?_
      refine r_getF ok68 24 rfl rfl ho rfl ?_
      refine r_iload ok68 25 rfl rfl rfl ?_
      refine r_iconst (v := 1) ok68 26 rfl rfl rfl ?_
      refine r_isub ok68 27 rfl rfl ?_
      obtain ⟨c3, h3⟩ := h2
      refine r_iald ok68 28 rfl rfl (rel_shp ho (i := 35) rfl) c3 ?_
      refine r_istore ok68 29 rfl rfl ?_
      refine r_aload_n ok68 30 rfl rfl rfl ?_
      refine r_aload_n ok68 31 rfl rfl rfl ?_
      refine r_aload_n ok68 32 rfl rfl rfl ?_
      refine r_iload ok68 33 rfl rfl rfl ?_
      refine r_invVi (as := [.ref r1, .ref r2, .int (σ.1 (o + 7) (x4 - 1).toNatClampNeg)]) (S := []) ok68 34 rfl rfl mf69 ho rfl (Nat.le_of_ble_eq_true rfl) rfl h3 (fun v4 σ4 h4 => ?_)
      refine r_istore ok68 35 rfl rfl ?_
      refine r_iload ok68 36 rfl rfl rfl ?_
      refine r_if_ne ok68 37 rfl rfl (fun c5 => ?_) (fun c5 => ?_)
      · have h5 := h4.1 c5
        refine r_aload_n ok68 44 rfl rfl rfl ?_
        refine r_getF ok68 45 rfl rfl ho rfl ?_
        refine r_iload ok68 46 rfl rfl rfl ?_
        refine r_iconst (v := 1) ok68 47 rfl rfl rfl ?_
        refine r_isub ok68 48 rfl rfl ?_
        refine r_iload ok68 49 rfl rfl rfl ?_
        refine r_iload ok68 50 rfl rfl rfl ?_
        refine r_iconst (v := (-1)) ok68 51 rfl rfl rfl ?_
        refine r_ixor ok68 52 rfl rfl ?_
        refine r_iand ok68 53 rfl rfl ?_
        obtain ⟨c6, h6⟩ := h5
        refine r_iast ok68 54 rfl rfl (rel_shp ho (i := 35) rfl) c6 ?_
        refine r_aload_n ok68 55 rfl rfl rfl ?_
        refine r_getF ok68 56 rfl rfl ho rfl ?_
        refine r_iload ok68 57 rfl rfl rfl ?_
        refine r_iload ok68 58 rfl rfl rfl ?_
        obtain ⟨c7, h7⟩ := h6
        refine r_iast ok68 59 rfl rfl (rel_shp ho (i := 35) rfl) c7 ?_
        refine r_iinc (v := x4 + 1) ok68 60 rfl rfl rfl rfl ?_
        refine r_iinc (v := x5 + 1) ok68 61 rfl rfl rfl rfl ?_
        refine r_goto ok68 62 rfl rfl ?_
        exact G.weak (L' := [some (.ref o), some (.ref r1), some (.ref r2), none, some (.int (x4 + 1)), some (.int (x5 + 1)), none, none]) ⟨rfl, ⟨rfl, ⟨rfl, ⟨rfl, ⟨rfl, trivial⟩⟩⟩⟩⟩ h7
      · have h5 := h4.2 c5
        refine r_aload_n ok68 38 rfl rfl rfl ?_
        refine r_aload_n ok68 39 rfl rfl rfl ?_
        refine r_iload ok68 40 rfl rfl rfl ?_
        refine r_invVv (as := [.ref r1, .int (σ.1 (o + 7) (x4 - 1).toNatClampNeg)]) (S := []) ok68 41 rfl rfl mf70 ho rfl (Nat.le_of_ble_eq_true rfl) rfl h5 (fun σ8 h8 => ?_)
        refine r_iinc (v := x4 + (-1)) ok68 42 rfl rfl rfl rfl ?_
        refine r_goto ok68 43 rfl rfl ?_
        refine r_iinc (v := x5 + 1) ok68 61 rfl rfl rfl rfl ?_
        refine r_goto ok68 62 rfl rfl ?_
        exact G.weak (L' := [some (.ref o), some (.ref r1), some (.ref r2), none, some (.int (x4 + (-1))), some (.int (x5 + 1)), none, none]) ⟨rfl, ⟨rfl, ⟨rfl, ⟨rfl, ⟨rfl, trivial⟩⟩⟩⟩⟩ h8

theorem K68 {Θ : Th} {d : Nat} {σ : Mem} {Q : Po} {o : Nat} {r1 : Nat} {r2 n2 : Nat} {x3 : Int32} (h : G Θ (d + 1) 68 0 [some (.ref o), some (.ref r1), some (.ref r2), some (.int x3), none, none, none, none] [] σ Q) : Cm Θ (d + 1) 68 [.ref o, .ref r1, .ref r2, .int x3] σ Q :=
  C_of_G okM68 (Nat.le_of_ble_eq_true rfl) rfl h

-- 69: LikeYears$Nearest.upperPart(LLikeYears$Book;[II)I
set_option maxRecDepth 100000 in
set_option maxHeartbeats 4000000 in
theorem B69_0 {Θ : Th} {d : Nat} {σ : Mem} {Q : Po} {o : Nat} {r1 : Nat} {r2 n2 : Nat} {x3 : Int32} (ho : (shq o).1 = 7) (hp1 : (shq r1).1 = 1) (hp2 : shq r2 = (20, n2))
    (h : G Θ (d + 1) 69 9 [some (.ref o), some (.ref r1), some (.ref r2), some (.int x3), some (.int 0), some (.int 0), some (.int 0)] [] σ Q) :
    G Θ (d + 1) 69 0 [some (.ref o), some (.ref r1), some (.ref r2), some (.int x3), none, none, none] [] σ Q := by
  refine r_iconst (v := 0) ok69 0 rfl rfl rfl ?_
  refine r_istore ok69 1 rfl rfl ?_
  refine r_iconst (v := 0) ok69 2 rfl rfl rfl ?_
  refine r_istore ok69 3 rfl rfl ?_
  refine r_iconst (v := 0) ok69 4 rfl rfl rfl ?_
  refine r_istore ok69 5 rfl rfl ?_
  exact h

set_option maxRecDepth 100000 in
set_option maxHeartbeats 4000000 in
theorem B69_9 {Θ : Th} {d : Nat} {σ : Mem} {Q : Po} {o : Nat} {r1 : Nat} {r2 n2 : Nat} {x3 : Int32} {x4 : Int32} {x5 : Int32} {x6 : Int32} (ho : (shq o).1 = 7) (hp1 : (shq r1).1 = 1) (hp2 : shq r2 = (20, n2))
    (h : (((σ.1 r1 4) ≤ x6 → G Θ (d + 1) 69 68 [some (.ref o), some (.ref r1), some (.ref r2), some (.int x3), some (.int x4), some (.int x5), some (.int 0)] [] σ Q) ∧ (¬ (σ.1 r1 4) ≤ x6 → ((((x3 >>> (x6 &&& 31)) &&& 1) = 0 → G Θ (d + 1) 69 9 [some (.ref o), some (.ref r1), some (.ref r2), some (.int x3), some (.int x4), some (.int x5), some (.int (x6 + 1))] [] σ Q) ∧ (¬ ((x3 >>> (x6 &&& 31)) &&& 1) = 0 → (vp_in x6 16 ∧ (vp_in x6 16 ∧ (vp_in x6 16 ∧ G Θ (d + 1) 69 9 [some (.ref o), some (.ref r1), some (.ref r2), some (.int x3), some (.int (x4 + (σ.1 (r1 + 6) x6.toNatClampNeg))), some (.int (x5 + ((σ.1 (r1 + 6) x6.toNatClampNeg) * (σ.1 (r1 + 5) x6.toNatClampNeg)))), some (.int (x6 + 1))] [] σ Q)))))))) :
    G Θ (d + 1) 69 9 [some (.ref o), some (.ref r1), some (.ref r2), some (.int x3), some (.int x4), some (.int x5), some (.int x6)] [] σ Q := by
  refine r_iload ok69 6 rfl rfl rfl ?_
  refine r_aload_n ok69 7 rfl rfl rfl ?_
  refine r_getI ok69 8 rfl rfl hp1 rfl ?_
  refine r_icmp_ge ok69 9 rfl rfl (fun c1 => ?_) (fun c1 => ?_)
  · have h1 := h.1 c1
    refine r_iconst (v := 0) ok69 37 rfl rfl rfl ?_
    refine r_istore ok69 38 rfl rfl ?_
    exact h1
  · have h1 := h.2 c1
    refine r_iload_n ok69 10 rfl rfl rfl ?_
    refine r_iload ok69 11 rfl rfl rfl ?_
    refine r_ishr ok69 12 rfl rfl ?_
    refine r_iconst (v := 1) ok69 13 rfl rfl rfl ?_
    refine r_iand ok69 14 rfl rfl ?_
    refine r_if_eq ok69 15 rfl rfl (fun c2 => ?_) (fun c2 => ?_)
    · have h2 := h1.1 c2
      refine r_iinc (v := x6 + 1) ok69 35 rfl rfl rfl rfl ?_
      refine r_goto ok69 36 rfl rfl ?_
      exact h2
    · have h2 := h1.2 c2
      refine r_iload ok69 16 rfl rfl rfl ?_
      refine r_aload_n ok69 17 rfl rfl rfl ?_
      refine r_getF ok69 18 rfl rfl hp1 rfl ?_
      refine r_iload ok69 19 rfl rfl rfl ?_
      obtain ⟨c3, h3⟩ := h2
      refine r_iald ok69 20 rfl rfl (rel_shp hp1 (i := 9) rfl) c3 ?_
      refine r_iadd ok69 21 rfl rfl ?_
      refine r_istore ok69 22 rfl rfl ?_
      refine r_iload ok69 23 rfl rfl rfl ?_
      refine r_aload_n ok69 24 rfl rfl rfl ?_
      refine r_getF ok69 25 rfl rfl hp1 rfl ?_
      refine r_iload ok69 26 rfl rfl rfl ?_
      obtain ⟨c4, h4⟩ := h3
      refine r_iald ok69 27 rfl rfl (rel_shp hp1 (i := 9) rfl) c4 ?_
      refine r_aload_n ok69 28 rfl rfl rfl ?_
      refine r_getF ok69 29 rfl rfl hp1 rfl ?_
      refine r_iload ok69 30 rfl rfl rfl ?_
      obtain ⟨c5, h5⟩ := h4
      refine r_iald ok69 31 rfl rfl (rel_shp hp1 (i := 8) rfl) c5 ?_
      refine r_imul ok69 32 rfl rfl ?_
      refine r_iadd ok69 33 rfl rfl ?_
      refine r_istore ok69 34 rfl rfl ?_
      refine r_iinc (v := x6 + 1) ok69 35 rfl rfl rfl rfl ?_
      refine r_goto ok69 36 rfl rfl ?_
      exact h5

set_option maxRecDepth 100000 in
set_option maxHeartbeats 4000000 in
theorem B69_68 {Θ : Th} {d : Nat} {σ : Mem} {Q : Po} {o : Nat} {r1 : Nat} {r2 n2 : Nat} {x3 : Int32} {x4 : Int32} {x5 : Int32} {x6 : Int32} (ho : (shq o).1 = 7) (hp1 : (shq r1).1 = 1) (hp2 : shq r2 = (20, n2))
    (h : (((σ.1 r1 4) ≤ x6 → Ci Θ d 40 [.ref 86, .int x3, .ref r2] σ (fun v2 σ2 => Q (some (.int v2)) σ2)) ∧ (¬ (σ.1 r1 4) ≤ x6 → (vp_in x6 16 ∧ (vp_in x6 16 ∧ (vp_in x6 16 ∧ G Θ (d + 1) 69 68 [some (.ref o), some (.ref r1), some (.ref r2), some (.int x3), some (.int x4), some (.int x5), some (.int (x6 + 1))] [] (sI σ 87 (x6.toNatClampNeg) ((σ.1 (r1 + 6) x6.toNatClampNeg) * (((σ.1 (r1 + 5) x6.toNatClampNeg) * x4) - x5))) Q)))))) :
    G Θ (d + 1) 69 68 [some (.ref o), some (.ref r1), some (.ref r2), some (.int x3), some (.int x4), some (.int x5), some (.int x6)] [] σ Q := by
  refine r_iload ok69 39 rfl rfl rfl ?_
  refine r_aload_n ok69 40 rfl rfl rfl ?_
  refine r_getI ok69 41 rfl rfl hp1 rfl ?_
  refine r_icmp_ge ok69 42 rfl rfl (fun c1 => ?_) (fun c1 => ?_)
  · have h1 := h.1 c1
    refine r_aload_n ok69 63 rfl rfl rfl ?_
    refine r_getA ok69 64 rfl rfl ho rfl ?_
    refine r_iload_n ok69 65 rfl rfl rfl ?_
    refine r_aload_n ok69 66 rfl rfl rfl ?_
    refine r_invVi (as := [.int x3, .ref r2]) (S := []) ok69 67 rfl rfl mf40 rfl rfl (Nat.le_of_ble_eq_true rfl) rfl h1 (fun v2 σ2 h2 => ?_)
    exact r_iret ok69 68 rfl rfl rfl h2
  · have h1 := h.2 c1
    refine r_aload_n ok69 43 rfl rfl rfl ?_
    refine r_getA ok69 44 rfl rfl ho rfl ?_
    refine r_getF ok69 45 rfl rfl rfl rfl ?_
    refine r_iload ok69 46 rfl rfl rfl ?_
    refine r_aload_n ok69 47 rfl rfl rfl ?_
    refine r_getF ok69 48 rfl rfl hp1 rfl ?_
    refine r_iload ok69 49 rfl rfl rfl ?_
    obtain ⟨c3, h3⟩ := h1
    refine r_iald ok69 50 rfl rfl (rel_shp hp1 (i := 9) rfl) c3 ?_
    refine r_aload_n ok69 51 rfl rfl rfl ?_
    refine r_getF ok69 52 rfl rfl hp1 rfl ?_
    refine r_iload ok69 53 rfl rfl rfl ?_
    obtain ⟨c4, h4⟩ := h3
    refine r_iald ok69 54 rfl rfl (rel_shp hp1 (i := 8) rfl) c4 ?_
    refine r_iload ok69 55 rfl rfl rfl ?_
    refine r_imul ok69 56 rfl rfl ?_
    refine r_iload ok69 57 rfl rfl rfl ?_
    refine r_isub ok69 58 rfl rfl ?_
    refine r_imul ok69 59 rfl rfl ?_
    obtain ⟨c5, h5⟩ := h4
    refine r_iast ok69 60 rfl rfl rfl c5 ?_
    refine r_iinc (v := x6 + 1) ok69 61 rfl rfl rfl rfl ?_
    refine r_goto ok69 62 rfl rfl ?_
    exact h5

theorem K69 {Θ : Th} {d : Nat} {σ : Mem} {Q : Po} {o : Nat} {r1 : Nat} {r2 n2 : Nat} {x3 : Int32} (h : G Θ (d + 1) 69 0 [some (.ref o), some (.ref r1), some (.ref r2), some (.int x3), none, none, none] [] σ Q) : Cm Θ (d + 1) 69 [.ref o, .ref r1, .ref r2, .int x3] σ Q :=
  C_of_G okM69 (Nat.le_of_ble_eq_true rfl) rfl h

-- 70: LikeYears$Nearest.seal(LLikeYears$Book;I)V
set_option maxRecDepth 100000 in
set_option maxHeartbeats 4000000 in
theorem B70_0 {Θ : Th} {d : Nat} {σ : Mem} {Q : Po} {o : Nat} {r1 : Nat} {x2 : Int32} (ho : (shq o).1 = 7) (hp1 : (shq r1).1 = 1)
    (h : G Θ (d + 1) 70 11 [some (.ref o), some (.ref r1), some (.int x2), some (.long 0), none, some (.long 0), none, some (.long 0), none, some (.int 0)] [] σ Q) :
    G Θ (d + 1) 70 0 [some (.ref o), some (.ref r1), some (.int x2), none, none, none, none, none, none, none] [] σ Q := by
  refine r_lconst (v := 0) ok70 0 rfl rfl rfl ?_
  refine r_lstore_n ok70 1 rfl rfl ?_
  refine r_lconst (v := 0) ok70 2 rfl rfl rfl ?_
  refine r_lstore ok70 3 rfl rfl ?_
  refine r_lconst (v := 0) ok70 4 rfl rfl rfl ?_
  refine r_lstore ok70 5 rfl rfl ?_
  refine r_iconst (v := 0) ok70 6 rfl rfl rfl ?_
  refine r_istore ok70 7 rfl rfl ?_
  exact h

set_option maxRecDepth 100000 in
set_option maxHeartbeats 4000000 in
theorem B70_11 {Θ : Th} {d : Nat} {σ : Mem} {Q : Po} {o : Nat} {r1 : Nat} {x2 : Int32} {x3 : Int64} {x5 : Int64} {x7 : Int64} {x9 : Int32} (ho : (shq o).1 = 7) (hp1 : (shq r1).1 = 1)
    (h : (((σ.1 r1 4) ≤ x9 → Cv Θ d 47 [.ref (o + 8), .long x5, .long x3] σ (fun σ2 => G Θ (d + 1) 70 109 [some (.ref o), some (.ref r1), some (.int x2), some (.long x3), none, some (.long x5), none, some (.long x7), none, some (.int 0)] [] σ2 Q)) ∧ (¬ (σ.1 r1 4) ≤ x9 → ((((x2 >>> (x9 &&& 31)) &&& 1) = 0 → G Θ (d + 1) 70 11 [some (.ref o), some (.ref r1), some (.int x2), some (.long x3), none, some (.long x5), none, some (.long x7), none, some (.int (x9 + 1))] [] σ Q) ∧ (¬ ((x2 >>> (x9 &&& 31)) &&& 1) = 0 → (vp_in x9 16 ∧ (vp_in x9 16 ∧ (vp_in x9 16 ∧ (vp_in x9 16 ∧ (vp_in x9 16 ∧ (vp_in x9 16 ∧ G Θ (d + 1) 70 11 [some (.ref o), some (.ref r1), some (.int x2), some (.long (x3 + ((σ.1 (r1 + 6) x9.toNatClampNeg).toInt64))), none, some (.long (x5 + (((σ.1 (r1 + 6) x9.toNatClampNeg) * (σ.1 (r1 + 5) x9.toNatClampNeg)).toInt64))), none, some (.long (x7 + ((((σ.1 (r1 + 6) x9.toNatClampNeg) * (σ.1 (r1 + 5) x9.toNatClampNeg)) * (σ.1 (r1 + 5) x9.toNatClampNeg)).toInt64))), none, some (.int (x9 + 1))] [] σ Q))))))))))) :
    G Θ (d + 1) 70 11 [some (.ref o), some (.ref r1), some (.int x2), some (.long x3), none, some (.long x5), none, some (.long x7), none, some (.int x9)] [] σ Q := by
  refine r_iload ok70 8 rfl rfl rfl ?_
  refine r_aload_n ok70 9 rfl rfl rfl ?_
  refine r_getI ok70 10 rfl rfl hp1 rfl ?_
  refine r_icmp_ge ok70 11 rfl rfl (fun c1 => ?_) (fun c1 => ?_)
  · have h1 := h.1 c1
    refine r_aload_n ok70 59 rfl rfl rfl ?_
    refine r_getF ok70 60 rfl rfl ho rfl ?_
    refine r_lload ok70 61 rfl rfl rfl ?_
    refine r_lload_n ok70 62 rfl rfl rfl ?_
    refine r_invVv (as := [.long x5, .long x3]) (S := []) ok70 63 rfl rfl mf47 (congrArg Prod.fst (rel_shp ho (i := 36) rfl)) rfl (Nat.le_of_ble_eq_true rfl) rfl h1 (fun σ2 h2 => ?_)
    refine r_iconst (v := 0) ok70 64 rfl rfl rfl ?_
    refine r_istore ok70 65 rfl rfl ?_
    exact h2
  · have h1 := h.2 c1
    refine r_iload_n ok70 12 rfl rfl rfl ?_
    refine r_iload ok70 13 rfl rfl rfl ?_
    refine r_ishr ok70 14 rfl rfl ?_
    refine r_iconst (v := 1) ok70 15 rfl rfl rfl ?_
    refine r_iand ok70 16 rfl rfl ?_
    refine r_if_eq ok70 17 rfl rfl (fun c3 => ?_) (fun c3 => ?_)
    · have h3 := h1.1 c3
      refine r_iinc (v := x9 + 1) ok70 57 rfl rfl rfl rfl ?_
      refine r_goto ok70 58 rfl rfl ?_
      exact h3
    · have h3 := h1.2 c3
      refine r_lload_n ok70 18 rfl rfl rfl ?_
      refine r_aload_n ok70 19 rfl rfl rfl ?_
      refine r_getF ok70 20 rfl rfl hp1 rfl ?_
      refine r_iload ok70 21 rfl rfl rfl ?_
      obtain ⟨c4, h4⟩ := h3
      refine r_iald ok70 22 rfl rfl (rel_shp hp1 (i := 9) rfl) c4 ?_
      refine r_i2l ok70 23 rfl rfl ?_
      refine r_ladd ok70 24 rfl rfl ?_
      refine r_lstore_n ok70 25 rfl rfl ?_
      refine r_lload ok70 26 rfl rfl rfl ?_
      refine r_aload_n ok70 27 rfl rfl rfl ?_
      refine r_getF ok70 28 rfl rfl hp1 rfl ?_
      refine r_iload ok70 29 rfl rfl rfl ?_
      obtain ⟨c5, h5⟩ := h4
      refine r_iald ok70 30 rfl rfl (rel_shp hp1 (i := 9) rfl) c5 ?_
      refine r_aload_n ok70 31 rfl rfl rfl ?_
      refine r_getF ok70 32 rfl rfl hp1 rfl ?_
      refine r_iload ok70 33 rfl rfl rfl ?_
      obtain ⟨c6, h6⟩ := h5
      refine r_iald ok70 34 rfl rfl (rel_shp hp1 (i := 8) rfl) c6 ?_
      refine r_imul ok70 35 rfl rfl ?_
      refine r_i2l ok70 36 rfl rfl ?_
      refine r_ladd ok70 37 rfl rfl ?_
      refine r_lstore ok70 38 rfl rfl ?_
      refine r_lload ok70 39 rfl rfl rfl ?_
      refine r_aload_n ok70 40 rfl rfl rfl ?_
      refine r_getF ok70 41 rfl rfl hp1 rfl ?_
      refine r_iload ok70 42 rfl rfl rfl ?_
      obtain ⟨c7, h7⟩ := h6
      refine r_iald ok70 43 rfl rfl (rel_shp hp1 (i := 9) rfl) c7 ?_
      refine r_aload_n ok70 44 rfl rfl rfl ?_
      refine r_getF ok70 45 rfl rfl hp1 rfl ?_
      refine r_iload ok70 46 rfl rfl rfl ?_
      obtain ⟨c8, h8⟩ := h7
      refine r_iald ok70 47 rfl rfl (rel_shp hp1 (i := 8) rfl) c8 ?_
      refine r_imul ok70 48 rfl rfl ?_
      refine r_aload_n ok70 49 rfl rfl rfl ?_
      refine r_getF ok70 50 rfl rfl hp1 rfl ?_
      refine r_iload ok70 51 rfl rfl rfl ?_
      obtain ⟨c9, h9⟩ := h8
      refine r_iald ok70 52 rfl rfl (rel_shp hp1 (i := 8) rfl) c9 ?_
      refine r_imul ok70 53 rfl rfl ?_
      refine r_i2l ok70 54 rfl rfl ?_
      refine r_ladd ok70 55 rfl rfl ?_
      refine r_lstore ok70 56 rfl rfl ?_
      refine r_iinc (v := x9 + 1) ok70 57 rfl rfl rfl rfl ?_
      refine r_goto ok70 58 rfl rfl ?_
      exact h9

set_option maxRecDepth 100000 in
set_option maxHeartbeats 4000000 in
theorem B70_109 {Θ : Th} {d : Nat} {σ : Mem} {Q : Po} {o : Nat} {r1 : Nat} {x2 : Int32} {x3 : Int64} {x5 : Int64} {x7 : Int64} {x9 : Int32} (ho : (shq o).1 = 7) (hp1 : (shq r1).1 = 1)
    (h : (((σ.1 r1 4) ≤ x9 → Cv Θ d 48 [.ref (o + 4), .long ((x7 * x3) - (x5 * x5)), .long x3] σ (fun σ2 => Q none σ2)) ∧ (¬ (σ.1 r1 4) ≤ x9 → ((((x2 >>> (x9 &&& 31)) &&& 1) = 0 → G Θ (d + 1) 70 109 [some (.ref o), some (.ref r1), some (.int x2), some (.long x3), none, some (.long x5), none, some (.long x7), none, some (.int (x9 + 1))] [] σ Q) ∧ (¬ ((x2 >>> (x9 &&& 31)) &&& 1) = 0 → (vp_in x9 16 ∧ (vp_in x9 16 ∧ (vp_in x9 16 ∧ G Θ (d + 1) 70 109 [some (.ref o), some (.ref r1), some (.int x2), some (.long x3), none, some (.long x5), none, some (.long x7), none, some (.int (x9 + 1))] [] (sL (sL (sI σ (o + 1) (x9.toNatClampNeg) x2) (o + 2) (x9.toNatClampNeg) ((sI σ (o + 1) (x9.toNatClampNeg) x2).2.1 (o + 8) 0)) (o + 3) (x9.toNatClampNeg) ((sL (sI σ (o + 1) (x9.toNatClampNeg) x2) (o + 2) (x9.toNatClampNeg) ((sI σ (o + 1) (x9.toNatClampNeg) x2).2.1 (o + 8) 0)).2.1 (o + 8) 1)) Q)))))))) :
    G Θ (d + 1) 70 109 [some (.ref o), some (.ref r1), some (.int x2), some (.long x3), none, some (.long x5), none, some (.long x7), none, some (.int x9)] [] σ Q := by
  refine r_iload ok70 66 rfl rfl rfl ?_
  refine r_aload_n ok70 67 rfl rfl rfl ?_
  refine r_getI ok70 68 rfl rfl hp1 rfl ?_
  refine r_icmp_ge ok70 69 rfl rfl (fun c1 => ?_) (fun c1 => ?_)
  · have h1 := h.1 c1
    refine r_aload_n ok70 97 rfl rfl rfl ?_
    refine r_getF ok70 98 rfl rfl ho rfl ?_
    refine r_lload ok70 99 rfl rfl rfl ?_
    refine r_lload_n ok70 100 rfl rfl rfl ?_
    refine r_lmul ok70 101 rfl rfl ?_
    refine r_lload ok70 102 rfl rfl rfl ?_
    refine r_lload ok70 103 rfl rfl rfl ?_
    refine r_lmul ok70 104 rfl rfl ?_
    refine r_lsub ok70 105 rfl rfl ?_
    refine r_lload_n ok70 106 rfl rfl rfl ?_
    refine r_invVv (as := [.long ((x7 * x3) - (x5 * x5)), .long x3]) (S := []) ok70 107 rfl rfl mf48 (congrArg Prod.fst (rel_shp ho (i := 32) rfl)) rfl (Nat.le_of_ble_eq_true rfl) rfl h1 (fun σ2 h2 => ?_)
    exact r_ret ok70 108 rfl rfl rfl h2
  · have h1 := h.2 c1
    refine r_iload_n ok70 70 rfl rfl rfl ?_
    refine r_iload ok70 71 rfl rfl rfl ?_
    refine r_ishr ok70 72 rfl rfl ?_
    refine r_iconst (v := 1) ok70 73 rfl rfl rfl ?_
    refine r_iand ok70 74 rfl rfl ?_
    refine r_if_eq ok70 75 rfl rfl (fun c3 => ?_) (fun c3 => ?_)
    · have h3 := h1.1 c3
      refine r_iinc (v := x9 + 1) ok70 95 rfl rfl rfl rfl ?_
      refine r_goto ok70 96 rfl rfl ?_
      exact h3
    · have h3 := h1.2 c3
      refine r_aload_n ok70 76 rfl rfl rfl ?_
      refine r_getF ok70 77 rfl rfl ho rfl ?_
      refine r_iload ok70 78 rfl rfl rfl ?_
      refine r_iload_n ok70 79 rfl rfl rfl ?_
      obtain ⟨c4, h4⟩ := h3
      refine r_iast ok70 80 rfl rfl (rel_shp ho (i := 29) rfl) c4 ?_
      refine r_aload_n ok70 81 rfl rfl rfl ?_
      refine r_getF ok70 82 rfl rfl ho rfl ?_
      refine r_iload ok70 83 rfl rfl rfl ?_
      refine r_aload_n ok70 84 rfl rfl rfl ?_
      refine r_getF ok70 85 rfl rfl ho rfl ?_
      refine r_getL ok70 86 rfl rfl (congrArg Prod.fst (rel_shp ho (i := 36) rfl)) rfl ?_
      obtain ⟨c5, h5⟩ := h4
      refine r_last ok70 87 rfl rfl (rel_shp ho (i := 30) rfl) c5 ?_
      refine r_aload_n ok70 88 rfl rfl rfl ?_
      refine r_getF ok70 89 rfl rfl ho rfl ?_
      refine r_iload ok70 90 rfl rfl rfl ?_
      refine r_aload_n ok70 91 rfl rfl rfl ?_
      refine r_getF ok70 92 rfl rfl ho rfl ?_
      refine r_getL ok70 93 rfl rfl (congrArg Prod.fst (rel_shp ho (i := 36) rfl)) rfl ?_
      obtain ⟨c6, h6⟩ := h5
      refine r_last ok70 94 rfl rfl (rel_shp ho (i := 31) rfl) c6 ?_
      refine r_iinc (v := x9 + 1) ok70 95 rfl rfl rfl rfl ?_
      refine r_goto ok70 96 rfl rfl ?_
      exact h6

theorem K70 {Θ : Th} {d : Nat} {σ : Mem} {Q : Po} {o : Nat} {r1 : Nat} {x2 : Int32} (h : G Θ (d + 1) 70 0 [some (.ref o), some (.ref r1), some (.int x2), none, none, none, none, none, none, none] [] σ Q) : Cm Θ (d + 1) 70 [.ref o, .ref r1, .int x2] σ Q :=
  C_of_G okM70 (Nat.le_of_ble_eq_true rfl) rfl h

-- 71: LikeYears$Nearest.partOf(II)J
set_option maxRecDepth 100000 in
set_option maxHeartbeats 4000000 in
theorem B71_0 {Θ : Th} {d : Nat} {σ : Mem} {Q : Po} {o : Nat} {x1 : Int32} {x2 : Int32} (ho : (shq o).1 = 7)
    (h : ((¬ x2 = 0 → (vp_in x1 16 ∧ Q (some (.long (σ.2.1 (o + 3) x1.toNatClampNeg))) σ)) ∧ (x2 = 0 → (vp_in x1 16 ∧ Q (some (.long (σ.2.1 (o + 2) x1.toNatClampNeg))) σ)))) :
    G Θ d 71 0 [some (.ref o), some (.int x1), some (.int x2)] [] σ Q := by
  refine r_iload_n ok71 0 rfl rfl rfl ?_
  refine r_if_ne ok71 1 rfl rfl (fun c1 => ?_) (fun c1 => ?_)
  · have h1 := h.1 c1
    refine r_aload_n ok71 7 rfl rfl rfl ?_
    refine r_getF ok71 8 rfl rfl ho rfl ?_
    refine r_iload_n ok71 9 rfl rfl rfl ?_
    obtain ⟨c2, h2⟩ := h1
    refine r_lald ok71 10 rfl rfl (rel_shp ho (i := 31) rfl) c2 ?_
    exact r_lret ok71 11 rfl rfl rfl h2
  · have h1 := h.2 c1
    refine r_aload_n ok71 2 rfl rfl rfl ?_
    refine r_getF ok71 3 rfl rfl ho rfl ?_
    refine r_iload_n ok71 4 rfl rfl rfl ?_
    obtain ⟨c3, h3⟩ := h1
    refine r_lald ok71 5 rfl rfl (rel_shp ho (i := 30) rfl) c3 ?_
    refine r_goto ok71 6 rfl rfl ?_
    exact r_lret ok71 11 rfl rfl rfl h3

theorem K71 {Θ : Th} {d : Nat} {σ : Mem} {Q : Po} {o : Nat} {x1 : Int32} {x2 : Int32} (h : G Θ d 71 0 [some (.ref o), some (.int x1), some (.int x2)] [] σ Q) : Cm Θ d 71 [.ref o, .int x1, .int x2] σ Q :=
  C_of_G okM71 (Nat.le_of_ble_eq_true rfl) rfl h

-- 72: LikeYears$Nearest.isFarther(IIZ)Z
set_option maxRecDepth 100000 in
set_option maxHeartbeats 4000000 in
theorem B72_0 {Θ : Th} {d : Nat} {σ : Mem} {Q : Po} {o : Nat} {x1 : Int32} {x2 : Int32} {x3 : Int32} (ho : (shq o).1 = 7)
    (h : (vp_in x1 16 ∧ (vp_in x2 16 ∧ (vp_in x2 16 ∧ (vp_in x1 16 ∧ ((x3 = 0 → (((lg_cmp (((σ.2.1 (o + 2) x1.toNatClampNeg) * (σ.2.1 (o + 3) x2.toNatClampNeg)) - ((σ.2.1 (o + 2) x2.toNatClampNeg) * (σ.2.1 (o + 3) x1.toNatClampNeg))) 0) ≤ 0 → Q (some (.int 0)) σ) ∧ (¬ (lg_cmp (((σ.2.1 (o + 2) x1.toNatClampNeg) * (σ.2.1 (o + 3) x2.toNatClampNeg)) - ((σ.2.1 (o + 2) x2.toNatClampNeg) * (σ.2.1 (o + 3) x1.toNatClampNeg))) 0) ≤ 0 → Q (some (.int 1)) σ))) ∧ (¬ x3 = 0 → ((0 ≤ (lg_cmp (((σ.2.1 (o + 2) x1.toNatClampNeg) * (σ.2.1 (o + 3) x2.toNatClampNeg)) - ((σ.2.1 (o + 2) x2.toNatClampNeg) * (σ.2.1 (o + 3) x1.toNatClampNeg))) 0) → Q (some (.int 0)) σ) ∧ (¬ 0 ≤ (lg_cmp (((σ.2.1 (o + 2) x1.toNatClampNeg) * (σ.2.1 (o + 3) x2.toNatClampNeg)) - ((σ.2.1 (o + 2) x2.toNatClampNeg) * (σ.2.1 (o + 3) x1.toNatClampNeg))) 0) → Q (some (.int 1)) σ))))))))) :
    G Θ d 72 0 [some (.ref o), some (.int x1), some (.int x2), some (.int x3), none, none] [] σ Q := by
  refine r_aload_n ok72 0 rfl rfl rfl ?_
  refine r_getF ok72 1 rfl rfl ho rfl ?_
  refine r_iload_n ok72 2 rfl rfl rfl ?_
  obtain ⟨c1, h1⟩ := h
  refine r_lald ok72 3 rfl rfl (rel_shp ho (i := 30) rfl) c1 ?_
  refine r_aload_n ok72 4 rfl rfl rfl ?_
  refine r_getF ok72 5 rfl rfl ho rfl ?_
  refine r_iload_n ok72 6 rfl rfl rfl ?_
  obtain ⟨c2, h2⟩ := h1
  refine r_lald ok72 7 rfl rfl (rel_shp ho (i := 31) rfl) c2 ?_
  refine r_lmul ok72 8 rfl rfl ?_
  refine r_aload_n ok72 9 rfl rfl rfl ?_
  refine r_getF ok72 10 rfl rfl ho rfl ?_
  refine r_iload_n ok72 11 rfl rfl rfl ?_
  obtain ⟨c3, h3⟩ := h2
  refine r_lald ok72 12 rfl rfl (rel_shp ho (i := 30) rfl) c3 ?_
  refine r_aload_n ok72 13 rfl rfl rfl ?_
  refine r_getF ok72 14 rfl rfl ho rfl ?_
  refine r_iload_n ok72 15 rfl rfl rfl ?_
  obtain ⟨c4, h4⟩ := h3
  refine r_lald ok72 16 rfl rfl (rel_shp ho (i := 31) rfl) c4 ?_
  refine r_lmul ok72 17 rfl rfl ?_
  refine r_lsub ok72 18 rfl rfl ?_
  refine r_lstore ok72 19 rfl rfl ?_
  refine r_iload_n ok72 20 rfl rfl rfl ?_
  refine r_if_eq ok72 21 rfl rfl (fun c5 => ?_) (fun c5 => ?_)
  · have h5 := h4.1 c5
    refine r_lload ok72 30 rfl rfl rfl ?_
    refine r_lconst (v := 0) ok72 31 rfl rfl rfl ?_
    refine r_lcmp ok72 32 rfl rfl ?_
    refine r_if_le ok72 33 rfl rfl (fun c6 => ?_) (fun c6 => ?_)
    · have h6 := h5.1 c6
      refine r_iconst (v := 0) ok72 36 rfl rfl rfl ?_
      exact r_zret ok72 37 rfl rfl rfl (Or.inl rfl) h6
    · have h6 := h5.2 c6
      refine r_iconst (v := 1) ok72 34 rfl rfl rfl ?_
      refine r_goto ok72 35 rfl rfl ?_
      exact r_zret ok72 37 rfl rfl rfl (Or.inr rfl) h6
  · have h5 := h4.2 c5
    refine r_lload ok72 22 rfl rfl rfl ?_
    refine r_lconst (v := 0) ok72 23 rfl rfl rfl ?_
    refine r_lcmp ok72 24 rfl rfl ?_
    refine r_if_ge ok72 25 rfl rfl (fun c7 => ?_) (fun c7 => ?_)
    · have h7 := h5.1 c7
      refine r_iconst (v := 0) ok72 28 rfl rfl rfl ?_
      refine r_goto ok72 29 rfl rfl ?_
      exact r_zret ok72 37 rfl rfl rfl (Or.inl rfl) h7
    · have h7 := h5.2 c7
      refine r_iconst (v := 1) ok72 26 rfl rfl rfl ?_
      refine r_goto ok72 27 rfl rfl ?_
      exact r_zret ok72 37 rfl rfl rfl (Or.inr rfl) h7

theorem K72 {Θ : Th} {d : Nat} {σ : Mem} {Q : Po} {o : Nat} {x1 : Int32} {x2 : Int32} {x3 : Int32} (h : G Θ d 72 0 [some (.ref o), some (.int x1), some (.int x2), some (.int x3), none, none] [] σ Q) : Cm Θ d 72 [.ref o, .int x1, .int x2, .int x3] σ Q :=
  C_of_G okM72 (Nat.le_of_ble_eq_true rfl) rfl h

-- 73: LikeYears$Nearest.fitGaps(LLikeYears$Book;[I)V
set_option maxRecDepth 100000 in
set_option maxHeartbeats 4000000 in
theorem B73_0 {Θ : Th} {d : Nat} {σ : Mem} {Q : Po} {o : Nat} {r1 : Nat} {r2 n2 : Nat} (ho : (shq o).1 = 7) (hp1 : (shq r1).1 = 1) (hp2 : shq r2 = (20, n2))
    (h : Ci Θ d 17 [.ref r1] σ (fun v1 σ1 => G Θ (d + 1) 73 11 [some (.ref o), some (.ref r1), some (.ref r2), some (.int v1), some (.int (-1)), some (.int 0), none, none] [] σ1 Q)) :
    G Θ (d + 1) 73 0 [some (.ref o), some (.ref r1), some (.ref r2), none, none, none, none, none] [] σ Q := by
  refine r_aload_n ok73 0 rfl rfl rfl ?_
  refine r_invVi (as := []) (S := []) ok73 1 rfl rfl mf17 hp1 rfl (Nat.le_of_ble_eq_true rfl) rfl h (fun v1 σ1 h1 => ?_)
  refine r_istore_n ok73 2 rfl rfl ?_
  refine r_iconst (v := (-1)) ok73 3 rfl rfl rfl ?_
  refine r_istore ok73 4 rfl rfl ?_
  refine r_iconst (v := 0) ok73 5 rfl rfl rfl ?_
  refine r_istore ok73 6 rfl rfl ?_
  exact h1

set_option maxRecDepth 100000 in
set_option maxHeartbeats 4000000 in
theorem B73_11 {Θ : Th} {d : Nat} {σ : Mem} {Q : Po} {o : Nat} {r1 : Nat} {r2 n2 : Nat} {x3 : Int32} {x4 : Int32} {x5 : Int32} (ho : (shq o).1 = 7) (hp1 : (shq r1).1 = 1) (hp2 : shq r2 = (20, n2))
    (h : ((16 ≤ x5 → Cv Θ d 75 [.ref o, .ref r1] σ (fun σ2 => Q none σ2)) ∧ (¬ 16 ≤ x5 → ((x3 = 0 → Cv Θ d 75 [.ref o, .ref r1] σ (fun σ4 => Q none σ4)) ∧ (¬ x3 = 0 → Ci Θ d 74 [.ref r1, .int x3, .int x4] σ (fun v5 σ5 => G Θ (d + 1) 73 34 [some (.ref o), some (.ref r1), some (.ref r2), some (.int x3), some (.int v5), some (.int x5), some (.int 0), none] [] σ5 Q)))))) :
    G Θ (d + 1) 73 11 [some (.ref o), some (.ref r1), some (.ref r2), some (.int x3), some (.int x4), some (.int x5), none, none] [] σ Q := by
  refine r_iload ok73 7 rfl rfl rfl ?_
  refine r_bipush (v := 16) ok73 8 rfl rfl rfl ?_
  refine r_icmp_ge ok73 9 rfl rfl (fun c1 => ?_) (fun c1 => ?_)
  · have h1 := h.1 c1
    refine r_aload_n ok73 79 rfl rfl rfl ?_
    refine r_aload_n ok73 80 rfl rfl rfl ?_
    refine r_invVv (as := [.ref r1]) (S := []) ok73 81 rfl rfl mf75 ho rfl (Nat.le_of_ble_eq_true rfl) rfl h1 (fun σ2 h2 => ?_)
    exact r_ret ok73 82 rfl rfl rfl h2
  · have h1 := h.2 c1
    refine r_iload_n ok73 10 rfl rfl rfl ?_
    refine r_if_eq ok73 11 rfl rfl (fun c3 => ?_) (fun c3 => ?_)
    · have h3 := h1.1 c3
      refine r_aload_n ok73 79 rfl rfl rfl ?_
      refine r_aload_n ok73 80 rfl rfl rfl ?_
      refine r_invVv (as := [.ref r1]) (S := []) ok73 81 rfl rfl mf75 ho rfl (Nat.le_of_ble_eq_true rfl) rfl h3 (fun σ4 h4 => ?_)
      exact r_ret ok73 82 rfl rfl rfl h4
    · have h3 := h1.2 c3
      refine r_aload_n ok73 12 rfl rfl rfl ?_
      refine r_iload_n ok73 13 rfl rfl rfl ?_
      refine r_iload ok73 14 rfl rfl rfl ?_
      refine r_invSi (as := [.ref r1, .int x3, .int x4]) (S := []) ok73 15 rfl rfl mf74 rfl (Nat.le_of_ble_eq_true rfl) rfl h3 (fun v5 σ5 h5 => ?_)
      refine r_istore ok73 16 rfl rfl ?_
      refine r_iconst (v := 0) ok73 17 rfl rfl rfl ?_
      refine r_istore ok73 18 rfl rfl ?_
      exact h5

set_option maxRecDepth 100000 in
set_option maxHeartbeats 4000000 in
theorem B73_34 {Θ : Th} {d : Nat} {σ : Mem} {Q : Po} {o : Nat} {r1 : Nat} {r2 n2 : Nat} {x3 : Int32} {x4 : Int32} {x5 : Int32} {x6 : Int32} (ho : (shq o).1 = 7) (hp1 : (shq r1).1 = 1) (hp2 : shq r2 = (20, n2))
    (h : (((σ.1 r1 4) ≤ x6 → Ci Θ d 40 [.ref 86, .int x3, .ref r2] σ (fun v2 σ2 => G Θ (d + 1) 73 103 [some (.ref o), some (.ref r1), some (.ref r2), some (.int x3), some (.int x4), some (.int x5), some (.int v2), some (.int 0)] [] σ2 Q)) ∧ (¬ (σ.1 r1 4) ≤ x6 → (vp_in x6 16 ∧ (((σ.1 (r1 + 5) x6.toNatClampNeg) ≤ x4 → (vp_in x6 16 ∧ (vp_in x6 16 ∧ G Θ (d + 1) 73 34 [some (.ref o), some (.ref r1), some (.ref r2), some (.int x3), some (.int x4), some (.int x5), some (.int (x6 + 1)), none] [] (sI σ 87 (x6.toNatClampNeg) (-(σ.1 (r1 + 6) x6.toNatClampNeg))) Q))) ∧ (¬ (σ.1 (r1 + 5) x6.toNatClampNeg) ≤ x4 → (vp_in x6 16 ∧ (vp_in x6 16 ∧ G Θ (d + 1) 73 34 [some (.ref o), some (.ref r1), some (.ref r2), some (.int x3), some (.int x4), some (.int x5), some (.int (x6 + 1)), none] [] (sI σ 87 (x6.toNatClampNeg) (σ.1 (r1 + 6) x6.toNatClampNeg)) Q)))))))) :
    G Θ (d + 1) 73 34 [some (.ref o), some (.ref r1), some (.ref r2), some (.int x3), some (.int x4), some (.int x5), some (.int x6), none] [] σ Q := by
  refine r_iload ok73 19 rfl rfl rfl ?_
  refine r_aload_n ok73 20 rfl rfl rfl ?_
  refine r_getI ok73 21 rfl rfl hp1 rfl ?_
  refine r_icmp_ge ok73 22 rfl rfl (fun c1 => ?_) (fun c1 => ?_)
  · have h1 := h.1 c1
    refine r_aload_n ok73 46 rfl rfl rfl ?_
    refine r_getA ok73 47 rfl rfl ho rfl ?_
    refine r_iload_n ok73 48 rfl rfl rfl ?_
    refine r_aload_n ok73 49 rfl rfl rfl ?_
    refine r_invVi (as := [.int x3, .ref r2]) (S := []) ok73 50 rfl rfl mf40 rfl rfl (Nat.le_of_ble_eq_true rfl) rfl h1 (fun v2 σ2 h2 => ?_)
    refine r_istore ok73 51 rfl rfl ?_
    refine r_iconst (v := 0) ok73 52 rfl rfl rfl ?_
    refine r_istore ok73 53 rfl rfl ?_
    exact h2
  · have h1 := h.2 c1
    refine r_aload_n ok73 23 rfl rfl rfl ?_
    refine r_getA ok73 24 rfl rfl ho rfl ?_
    refine r_getF ok73 25 rfl rfl rfl rfl ?_
    refine r_iload ok73 26 rfl rfl rfl ?_
    refine r_aload_n ok73 27 rfl rfl rfl ?_
    refine r_getF ok73 28 rfl rfl hp1 rfl ?_
    refine r_iload ok73 29 rfl rfl rfl ?_
    obtain ⟨c3, h3⟩ := h1
    refine r_iald ok73 30 rfl rfl (rel_shp hp1 (i := 8) rfl) c3 ?_
    refine r_iload ok73 31 rfl rfl rfl ?_
    refine r_icmp_le ok73 32 rfl rfl (fun c4 => ?_) (fun c4 => ?_)
    · have h4 := h3.1 c4
      refine r_aload_n ok73 38 rfl rfl rfl ?_
      refine r_getF ok73 39 rfl rfl hp1 rfl ?_
      refine r_iload ok73 40 rfl rfl rfl ?_
      obtain ⟨c5, h5⟩ := h4
      refine r_iald ok73 41 rfl rfl (rel_shp hp1 (i := 9) rfl) c5 ?_
      refine r_ineg ok73 42 rfl rfl ?_
      obtain ⟨c6, h6⟩ := h5
      refine r_iast ok73 43 rfl rfl rfl c6 ?_
      refine r_iinc (v := x6 + 1) ok73 44 rfl rfl rfl rfl ?_
      refine r_goto ok73 45 rfl rfl ?_
      exact h6
    · have h4 := h3.2 c4
      refine r_aload_n ok73 33 rfl rfl rfl ?_
      refine r_getF ok73 34 rfl rfl hp1 rfl ?_
      refine r_iload ok73 35 rfl rfl rfl ?_
      obtain ⟨c7, h7⟩ := h4
      refine r_iald ok73 36 rfl rfl (rel_shp hp1 (i := 9) rfl) c7 ?_
      refine r_goto ok73 37 rfl rfl ?_
      obtain ⟨c8, h8⟩ := h7
      refine r_iast ok73 43 rfl rfl rfl c8 ?_
      refine r_iinc (v := x6 + 1) ok73 44 rfl rfl rfl rfl ?_
      refine r_goto ok73 45 rfl rfl ?_
      exact h8

set_option maxRecDepth 100000 in
set_option maxHeartbeats 4000000 in
theorem B73_103 {Θ : Th} {d : Nat} {σ : Mem} {Q : Po} {o : Nat} {r1 : Nat} {r2 n2 : Nat} {x3 : Int32} {x4 : Int32} {x5 : Int32} {x6 : Int32} {x7 : Int32} (ho : (shq o).1 = 7) (hp1 : (shq r1).1 = 1) (hp2 : shq r2 = (20, n2))
    (h : (((σ.1 r1 4) ≤ x7 → G Θ (d + 1) 73 11 [some (.ref o), some (.ref r1), some (.ref r2), some (.int x6), some (.int x4), some (.int (x5 + 1)), none, none] [] σ Q) ∧ (¬ (σ.1 r1 4) ≤ x7 → (((((x3 &&& (x6 ^^^ (-1))) >>> (x7 &&& 31)) &&& 1) = 0 → G Θ (d + 1) 73 103 [some (.ref o), some (.ref r1), some (.ref r2), some (.int x3), some (.int x4), some (.int x5), some (.int x6), some (.int (x7 + 1))] [] σ Q) ∧ (¬ (((x3 &&& (x6 ^^^ (-1))) >>> (x7 &&& 31)) &&& 1) = 0 → (vp_in x7 16 ∧ G Θ (d + 1) 73 103 [some (.ref o), some (.ref r1), some (.ref r2), some (.int x3), some (.int x4), some (.int x5), some (.int x6), some (.int (x7 + 1))] [] (sI σ (o + 5) (x7.toNatClampNeg) x4) Q)))))) :
    G Θ (d + 1) 73 103 [some (.ref o), some (.ref r1), some (.ref r2), some (.int x3), some (.int x4), some (.int x5), some (.int x6), some (.int x7)] [] σ Q := by
  refine r_iload ok73 54 rfl rfl rfl ?_
  refine r_aload_n ok73 55 rfl rfl rfl ?_
  refine r_getI ok73 56 rfl rfl hp1 rfl ?_
  refine r_icmp_ge ok73 57 rfl rfl (fun c1 => ?_) (fun c1 => ?_)
  · have h1 := h.1 c1
    refine r_iload ok73 75 rfl rfl rfl ?_
    refine r_istore_n ok73 76 rfl rfl ?_
    refine r_iinc (v := x5 + 1) ok73 77 rfl rfl rfl rfl ?_
    refine r_goto ok73 78 rfl rfl ?_
    exact G.weak (L' := [some (.ref o), some (.ref r1), some (.ref r2), some (.int x6), some (.int x4), some (.int (x5 + 1)), none, none]) ⟨rfl, ⟨rfl, ⟨rfl, ⟨rfl, ⟨rfl, ⟨rfl, trivial⟩⟩⟩⟩⟩⟩ h1
  · have h1 := h.2 c1
    refine r_iload_n ok73 58 rfl rfl rfl ?_
    refine r_iload ok73 59 rfl rfl rfl ?_
    refine r_iconst (v := (-1)) ok73 60 rfl rfl rfl ?_
    refine r_ixor ok73 61 rfl rfl ?_
    refine r_iand ok73 62 rfl rfl ?_
    refine r_iload ok73 63 rfl rfl rfl ?_
    refine r_ishr ok73 64 rfl rfl ?_
    refine r_iconst (v := 1) ok73 65 rfl rfl rfl ?_
    refine r_iand ok73 66 rfl rfl ?_
    refine r_if_eq ok73 67 rfl rfl (fun c2 => ?_) (fun c2 => ?_)
    · have h2 := h1.1 c2
      refine r_iinc (v := x7 + 1) ok73 73 rfl rfl rfl rfl ?_
      refine r_goto ok73 74 rfl rfl ?_
      exact h2
    · have h2 := h1.2 c2
      refine r_aload_n ok73 68 rfl rfl rfl ?_
      refine r_getF ok73 69 rfl rfl ho rfl ?_
      refine r_iload ok73 70 rfl rfl rfl ?_
      refine r_iload ok73 71 rfl rfl rfl ?_
      obtain ⟨c3, h3⟩ := h2
      refine r_iast ok73 72 rfl rfl (rel_shp ho (i := 33) rfl) c3 ?_
      refine r_iinc (v := x7 + 1) ok73 73 rfl rfl rfl rfl ?_
      refine r_goto ok73 74 rfl rfl ?_
      exact h3

theorem K73 {Θ : Th} {d : Nat} {σ : Mem} {Q : Po} {o : Nat} {r1 : Nat} {r2 n2 : Nat} (h : G Θ (d + 1) 73 0 [some (.ref o), some (.ref r1), some (.ref r2), none, none, none, none, none] [] σ Q) : Cm Θ (d + 1) 73 [.ref o, .ref r1, .ref r2] σ Q :=
  C_of_G okM73 (Nat.le_of_ble_eq_true rfl) rfl h

-- 74: LikeYears$Nearest.nextLevel(LLikeYears$Book;II)I
set_option maxRecDepth 100000 in
set_option maxHeartbeats 4000000 in
theorem B74_0 {Θ : Th} {d : Nat} {σ : Mem} {Q : Po} {r0 : Nat} {x1 : Int32} {x2 : Int32} (hp0 : (shq r0).1 = 1)
    (h : G Θ (d + 1) 74 7 [some (.ref r0), some (.int x1), some (.int x2), some (.int 240), some (.int 0)] [] σ Q) :
    G Θ (d + 1) 74 0 [some (.ref r0), some (.int x1), some (.int x2), none, none] [] σ Q := by
  refine r_sipush (v := 240) ok74 0 rfl rfl rfl ?_
  refine r_istore_n ok74 1 rfl rfl ?_
  refine r_iconst (v := 0) ok74 2 rfl rfl rfl ?_
  refine r_istore ok74 3 rfl rfl ?_
  exact h

set_option maxRecDepth 100000 in
set_option maxHeartbeats 4000000 in
theorem B74_7 {Θ : Th} {d : Nat} {σ : Mem} {Q : Po} {r0 : Nat} {x1 : Int32} {x2 : Int32} {x3 : Int32} {x4 : Int32} (hp0 : (shq r0).1 = 1)
    (h : (((σ.1 r0 4) ≤ x4 → Q (some (.int x3)) σ) ∧ (¬ (σ.1 r0 4) ≤ x4 → ((((x1 >>> (x4 &&& 31)) &&& 1) = 0 → G Θ (d + 1) 74 7 [some (.ref r0), some (.int x1), some (.int x2), some (.int x3), some (.int (x4 + 1))] [] σ Q) ∧ (¬ ((x1 >>> (x4 &&& 31)) &&& 1) = 0 → (vp_in x4 16 ∧ (((σ.1 (r0 + 5) x4.toNatClampNeg) ≤ x2 → G Θ (d + 1) 74 7 [some (.ref r0), some (.int x1), some (.int x2), some (.int x3), some (.int (x4 + 1))] [] σ Q) ∧ (¬ (σ.1 (r0 + 5) x4.toNatClampNeg) ≤ x2 → (vp_in x4 16 ∧ G Θ (d + 1) 74 7 [some (.ref r0), some (.int x1), some (.int x2), some (.int (if (σ.1 (r0 + 5) x4.toNatClampNeg) < x3 then σ.1 (r0 + 5) x4.toNatClampNeg else x3)), some (.int (x4 + 1))] [] σ Q))))))))) :
    G Θ (d + 1) 74 7 [some (.ref r0), some (.int x1), some (.int x2), some (.int x3), some (.int x4)] [] σ Q := by
  refine r_iload ok74 4 rfl rfl rfl ?_
  refine r_aload_n ok74 5 rfl rfl rfl ?_
  refine r_getI ok74 6 rfl rfl hp0 rfl ?_
  refine r_icmp_ge ok74 7 rfl rfl (fun c1 => ?_) (fun c1 => ?_)
  · have h1 := h.1 c1
    refine r_iload_n ok74 29 rfl rfl rfl ?_
    exact r_iret ok74 30 rfl rfl rfl h1
  · have h1 := h.2 c1
    refine r_iload_n ok74 8 rfl rfl rfl ?_
    refine r_iload ok74 9 rfl rfl rfl ?_
    refine r_ishr ok74 10 rfl rfl ?_
    refine r_iconst (v := 1) ok74 11 rfl rfl rfl ?_
    refine r_iand ok74 12 rfl rfl ?_
    refine r_if_eq ok74 13 rfl rfl (fun c2 => ?_) (fun c2 => ?_)
    · have h2 := h1.1 c2
      refine r_iinc (v := x4 + 1) ok74 27 rfl rfl rfl rfl ?_
      refine r_goto ok74 28 rfl rfl ?_
      exact h2
    · have h2 := h1.2 c2
      refine r_aload_n ok74 14 rfl rfl rfl ?_
      refine r_getF ok74 15 rfl rfl hp0 rfl ?_
      refine r_iload ok74 16 rfl rfl rfl ?_
      obtain ⟨c3, h3⟩ := h2
      refine r_iald ok74 17 rfl rfl (rel_shp hp0 (i := 8) rfl) c3 ?_
      refine r_iload_n ok74 18 rfl rfl rfl ?_
      refine r_icmp_le ok74 19 rfl rfl (fun c4 => ?_) (fun c4 => ?_)
      · have h4 := h3.1 c4
        refine r_iinc (v := x4 + 1) ok74 27 rfl rfl rfl rfl ?_
        refine r_goto ok74 28 rfl rfl ?_
        exact h4
      · have h4 := h3.2 c4
        refine r_iload_n ok74 20 rfl rfl rfl ?_
        refine r_aload_n ok74 21 rfl rfl rfl ?_
        refine r_getF ok74 22 rfl rfl hp0 rfl ?_
        refine r_iload ok74 23 rfl rfl rfl ?_
        obtain ⟨c5, h5⟩ := h4
        refine r_iald ok74 24 rfl rfl (rel_shp hp0 (i := 8) rfl) c5 ?_
        refine r_mmin ok74 25 rfl rfl rfl (Nat.le_of_ble_eq_true rfl) w_min (Nat.le_of_ble_eq_true rfl) ?_
        refine r_istore_n ok74 26 rfl rfl ?_
        refine r_iinc (v := x4 + 1) ok74 27 rfl rfl rfl rfl ?_
        refine r_goto ok74 28 rfl rfl ?_
        exact h5

theorem K74 {Θ : Th} {d : Nat} {σ : Mem} {Q : Po} {r0 : Nat} {x1 : Int32} {x2 : Int32} (h : G Θ (d + 1) 74 0 [some (.ref r0), some (.int x1), some (.int x2), none, none] [] σ Q) : Cm Θ (d + 1) 74 [.ref r0, .int x1, .int x2] σ Q :=
  C_of_G okM74 (Nat.le_of_ble_eq_true rfl) rfl h

-- 75: LikeYears$Nearest.shareOut(LLikeYears$Book;)V
set_option maxRecDepth 100000 in
set_option maxHeartbeats 4000000 in
theorem B75_0 {Θ : Th} {d : Nat} {σ : Mem} {Q : Po} {o : Nat} {r1 : Nat} (ho : (shq o).1 = 7) (hp1 : (shq r1).1 = 1)
    (h : G Θ (d + 1) 75 7 [some (.ref o), some (.ref r1), some (.int 0)] [] (sI σ o 7 0) Q) :
    G Θ (d + 1) 75 0 [some (.ref o), some (.ref r1), none] [] σ Q := by
  refine r_aload_n ok75 0 rfl rfl rfl ?_
  refine r_iconst (v := 0) ok75 1 rfl rfl rfl ?_
  refine r_putI ok75 2 rfl rfl ho rfl ?_
  refine r_iconst (v := 0) ok75 3 rfl rfl rfl ?_
  refine r_istore_n ok75 4 rfl rfl ?_
  exact h

set_option maxRecDepth 100000 in
set_option maxHeartbeats 4000000 in
theorem B75_7 {Θ : Th} {d : Nat} {σ : Mem} {Q : Po} {o : Nat} {r1 : Nat} {x2 : Int32} (ho : (shq o).1 = 7) (hp1 : (shq r1).1 = 1)
    (h : (((σ.1 r1 4) ≤ x2 → Q none σ) ∧ (¬ (σ.1 r1 4) ≤ x2 → (vp_in x2 16 ∧ (vp_in x2 16 ∧ (vp_in x2 16 ∧ (vp_in x2 16 ∧ (vp_in x2 16 ∧ G Θ (d + 1) 75 7 [some (.ref o), some (.ref r1), some (.int (x2 + 1))] [] (sI (sI σ (o + 6) (x2.toNatClampNeg) ((σ.1 (r1 + 6) x2.toNatClampNeg) * (if 0 ≤ ((σ.1 (r1 + 5) x2.toNatClampNeg) - (σ.1 (o + 5) x2.toNatClampNeg)) then (σ.1 (r1 + 5) x2.toNatClampNeg) - (σ.1 (o + 5) x2.toNatClampNeg) else 0 - ((σ.1 (r1 + 5) x2.toNatClampNeg) - (σ.1 (o + 5) x2.toNatClampNeg))))) o 7 (((sI σ (o + 6) (x2.toNatClampNeg) ((σ.1 (r1 + 6) x2.toNatClampNeg) * (if 0 ≤ ((σ.1 (r1 + 5) x2.toNatClampNeg) - (σ.1 (o + 5) x2.toNatClampNeg)) then (σ.1 (r1 + 5) x2.toNatClampNeg) - (σ.1 (o + 5) x2.toNatClampNeg) else 0 - ((σ.1 (r1 + 5) x2.toNatClampNeg) - (σ.1 (o + 5) x2.toNatClampNeg))))).1 o 7) + ((sI σ (o + 6) (x2.toNatClampNeg) ((σ.1 (r1 + 6) x2.toNatClampNeg) * (if 0 ≤ ((σ.1 (r1 + 5) x2.toNatClampNeg) - (σ.1 (o + 5) x2.toNatClampNeg)) then (σ.1 (r1 + 5) x2.toNatClampNeg) - (σ.1 (o + 5) x2.toNatClampNeg) else 0 - ((σ.1 (r1 + 5) x2.toNatClampNeg) - (σ.1 (o + 5) x2.toNatClampNeg))))).1 (o + 6) x2.toNatClampNeg))) Q)))))))) :
    G Θ (d + 1) 75 7 [some (.ref o), some (.ref r1), some (.int x2)] [] σ Q := by
  refine r_iload_n ok75 5 rfl rfl rfl ?_
  refine r_aload_n ok75 6 rfl rfl rfl ?_
  refine r_getI ok75 7 rfl rfl hp1 rfl ?_
  refine r_icmp_ge ok75 8 rfl rfl (fun c1 => ?_) (fun c1 => ?_)
  · have h1 := h.1 c1
    exact r_ret ok75 39 rfl rfl rfl h1
  · have h1 := h.2 c1
    refine r_aload_n ok75 9 rfl rfl rfl ?_
    refine r_getF ok75 10 rfl rfl ho rfl ?_
    refine r_iload_n ok75 11 rfl rfl rfl ?_
    refine r_aload_n ok75 12 rfl rfl rfl ?_
    refine r_getF ok75 13 rfl rfl hp1 rfl ?_
    refine r_iload_n ok75 14 rfl rfl rfl ?_
    obtain ⟨c2, h2⟩ := h1
    refine r_iald ok75 15 rfl rfl (rel_shp hp1 (i := 9) rfl) c2 ?_
    refine r_aload_n ok75 16 rfl rfl rfl ?_
    refine r_getF ok75 17 rfl rfl hp1 rfl ?_
    refine r_iload_n ok75 18 rfl rfl rfl ?_
    obtain ⟨c3, h3⟩ := h2
    refine r_iald ok75 19 rfl rfl (rel_shp hp1 (i := 8) rfl) c3 ?_
    refine r_aload_n ok75 20 rfl rfl rfl ?_
    refine r_getF ok75 21 rfl rfl ho rfl ?_
    refine r_iload_n ok75 22 rfl rfl rfl ?_
    obtain ⟨c4, h4⟩ := h3
    refine r_iald ok75 23 rfl rfl (rel_shp ho (i := 33) rfl) c4 ?_
    refine r_isub ok75 24 rfl rfl ?_
    refine r_mabs ok75 25 rfl rfl rfl (Nat.le_of_ble_eq_true rfl) w_abs (Nat.le_of_ble_eq_true rfl) ?_
    refine r_imul ok75 26 rfl rfl ?_
    obtain ⟨c5, h5⟩ := h4
    refine r_iast ok75 27 rfl rfl (rel_shp ho (i := 34) rfl) c5 ?_
    refine r_aload_n ok75 28 rfl rfl rfl ?_
    refine r_dup ok75 29 rfl rfl rfl ?_
    refine r_getI ok75 30 rfl rfl ho rfl ?_
    refine r_aload_n ok75 31 rfl rfl rfl ?_
    refine r_getF ok75 32 rfl rfl ho rfl ?_
    refine r_iload_n ok75 33 rfl rfl rfl ?_
    obtain ⟨c6, h6⟩ := h5
    refine r_iald ok75 34 rfl rfl (rel_shp ho (i := 34) rfl) c6 ?_
    refine r_iadd ok75 35 rfl rfl ?_
    refine r_putI ok75 36 rfl rfl ho rfl ?_
    refine r_iinc (v := x2 + 1) ok75 37 rfl rfl rfl rfl ?_
    refine r_goto ok75 38 rfl rfl ?_
    exact h6

theorem K75 {Θ : Th} {d : Nat} {σ : Mem} {Q : Po} {o : Nat} {r1 : Nat} (h : G Θ (d + 1) 75 0 [some (.ref o), some (.ref r1), none] [] σ Q) : Cm Θ (d + 1) 75 [.ref o, .ref r1] σ Q :=
  C_of_G okM75 (Nat.le_of_ble_eq_true rfl) rfl h
