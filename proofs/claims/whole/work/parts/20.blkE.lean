-- 76: LikeYears$Order.fill(LLikeYears$Book;I)V
set_option maxRecDepth 100000 in
set_option maxHeartbeats 4000000 in
theorem B76_0 {Θ : Th} {d : Nat} {σ : Mem} {Q : Po} {o : Nat} {r1 : Nat} {x2 : Int32} (ho : (shq o).1 = 8) (hp1 : (shq r1).1 = 1)
    (h : Cv Θ d 292 [.ref (o + 1), .int 0] σ (fun σ1 => Cv Θ d 292 [.ref (o + 2), .int 0] σ1 (fun σ2 => G Θ (d + 1) 76 18 [some (.ref o), some (.ref r1), some (.int x2), some (.int 0), none] [] σ2 Q))) :
    G Θ (d + 1) 76 0 [some (.ref o), some (.ref r1), some (.int x2), none, none] [] σ Q := by
  refine r_aload_n ok76 0 rfl rfl rfl ?_
  refine r_getF ok76 1 rfl rfl ho rfl ?_
  refine r_iconst (v := 0) ok76 2 rfl rfl rfl ?_
  refine r_invSv (as := [.ref (o + 1), .int 0]) (S := []) ok76 3 rfl rfl mf292 rfl (Nat.le_of_ble_eq_true rfl) rfl h (fun σ1 h1 => ?_)
  refine r_aload_n ok76 4 rfl rfl rfl ?_
  refine r_getF ok76 5 rfl rfl ho rfl ?_
  refine r_iconst (v := 0) ok76 6 rfl rfl rfl ?_
  refine r_invSv (as := [.ref (o + 2), .int 0]) (S := []) ok76 7 rfl rfl mf292 rfl (Nat.le_of_ble_eq_true rfl) rfl h1 (fun σ2 h2 => ?_)
  refine r_iconst (v := 0) ok76 8 rfl rfl rfl ?_
  refine r_istore_n ok76 9 rfl rfl ?_
  exact h2

set_option maxRecDepth 100000 in
set_option maxHeartbeats 4000000 in
theorem B76_18 {Θ : Th} {d : Nat} {σ : Mem} {Q : Po} {o : Nat} {r1 : Nat} {x2 : Int32} {x3 : Int32} (ho : (shq o).1 = 8) (hp1 : (shq r1).1 = 1)
    (h : (((σ.1 r1 4) ≤ x3 → Q none σ) ∧ (¬ (σ.1 r1 4) ≤ x3 → G Θ (d + 1) 76 29 [some (.ref o), some (.ref r1), some (.int x2), some (.int x3), some (.int 0)] [] σ Q))) :
    G Θ (d + 1) 76 18 [some (.ref o), some (.ref r1), some (.int x2), some (.int x3), none] [] σ Q := by
  refine r_iload_n ok76 10 rfl rfl rfl ?_
  refine r_aload_n ok76 11 rfl rfl rfl ?_
  refine r_getI ok76 12 rfl rfl hp1 rfl ?_
  refine r_icmp_ge ok76 13 rfl rfl (fun c1 => ?_) (fun c1 => ?_)
  · have h1 := h.1 c1
    exact r_ret ok76 50 rfl rfl rfl h1
  · have h1 := h.2 c1
    refine r_iconst (v := 0) ok76 14 rfl rfl rfl ?_
    refine r_istore ok76 15 rfl rfl ?_
    exact h1

set_option maxRecDepth 100000 in
set_option maxHeartbeats 4000000 in
theorem B76_29 {Θ : Th} {d : Nat} {σ : Mem} {Q : Po} {o : Nat} {r1 : Nat} {x2 : Int32} {x3 : Int32} {x4 : Int32} (ho : (shq o).1 = 8) (hp1 : (shq r1).1 = 1)
    (h : (((σ.1 r1 4) ≤ x4 → G Θ (d + 1) 76 18 [some (.ref o), some (.ref r1), some (.int x2), some (.int (x3 + 1)), none] [] σ Q) ∧ (¬ (σ.1 r1 4) ≤ x4 → Ci Θ d 18 [.ref r1, .int x3, .int x4, .int x2] σ (fun v2 σ2 => ((v2 = 0 → G Θ (d + 1) 76 29 [some (.ref o), some (.ref r1), some (.int x2), some (.int x3), some (.int (x4 + 1))] [] σ2 Q) ∧ (¬ v2 = 0 → (vp_in x3 16 ∧ (vp_in x3 16 ∧ (vp_in x4 16 ∧ (vp_in x4 16 ∧ G Θ (d + 1) 76 29 [some (.ref o), some (.ref r1), some (.int x2), some (.int x3), some (.int (x4 + 1))] [] (sI (sI σ2 (o + 1) (x3.toNatClampNeg) ((σ2.1 (o + 1) x3.toNatClampNeg) ||| ((1 : Int32) <<< (x4 &&& 31)))) (o + 2) (x4.toNatClampNeg) (((sI σ2 (o + 1) (x3.toNatClampNeg) ((σ2.1 (o + 1) x3.toNatClampNeg) ||| ((1 : Int32) <<< (x4 &&& 31)))).1 (o + 2) x4.toNatClampNeg) ||| ((1 : Int32) <<< (x3 &&& 31)))) Q)))))))))) :
    G Θ (d + 1) 76 29 [some (.ref o), some (.ref r1), some (.int x2), some (.int x3), some (.int x4)] [] σ Q := by
  refine r_iload ok76 16 rfl rfl rfl ?_
  refine r_aload_n ok76 17 rfl rfl rfl ?_
  refine r_getI ok76 18 rfl rfl hp1 rfl ?_
  refine r_icmp_ge ok76 19 rfl rfl (fun c1 => ?_) (fun c1 => ?_)
  · have h1 := h.1 c1
    refine r_iinc (v := x3 + 1) ok76 48 rfl rfl rfl rfl ?_
    refine r_goto ok76 49 rfl rfl ?_
    exact G.weak (L' := [some (.ref o), some (.ref r1), some (.int x2), some (.int (x3 + 1)), none]) ⟨rfl, ⟨rfl, ⟨rfl, ⟨rfl, trivial⟩⟩⟩⟩ h1
  · have h1 := h.2 c1
    refine r_aload_n ok76 20 rfl rfl rfl ?_
    refine r_iload_n ok76 21 rfl rfl rfl ?_
    refine r_iload ok76 22 rfl rfl rfl ?_
    refine r_iload_n ok76 23 rfl rfl rfl ?_
    refine r_invVi (as := [.int x3, .int x4, .int x2]) (S := []) ok76 24 rfl rfl mf18 hp1 rfl (Nat.le_of_ble_eq_true rfl) rfl h1 (fun v2 σ2 h2 => ?_)
    refine r_if_eq ok76 25 rfl rfl (fun c3 => ?_) (fun c3 => ?_)
    · have h3 := h2.1 c3
      refine r_iinc (v := x4 + 1) ok76 46 rfl rfl rfl rfl ?_
      refine r_goto ok76 47 rfl rfl ?_
      exact h3
    · have h3 := h2.2 c3
      refine r_aload_n ok76 26 rfl rfl rfl ?_
      refine r_getF ok76 27 rfl rfl ho rfl ?_
      refine r_iload_n ok76 28 rfl rfl rfl ?_
      refine r_dup2a ok76 29 rfl rfl rfl rfl ?_
      obtain ⟨c4, h4⟩ := h3
      refine r_iald ok76 30 rfl rfl (rel_shp ho (i := 37) rfl) c4 ?_
      refine r_iconst (v := 1) ok76 31 rfl rfl rfl ?_
      refine r_iload ok76 32 rfl rfl rfl ?_
      refine r_ishl ok76 33 rfl rfl ?_
      refine r_ior ok76 34 rfl rfl ?_
      obtain ⟨c5, h5⟩ := h4
      refine r_iast ok76 35 rfl rfl (rel_shp ho (i := 37) rfl) c5 ?_
      refine r_aload_n ok76 36 rfl rfl rfl ?_
      refine r_getF ok76 37 rfl rfl ho rfl ?_
      refine r_iload ok76 38 rfl rfl rfl ?_
      refine r_dup2a ok76 39 rfl rfl rfl rfl ?_
      obtain ⟨c6, h6⟩ := h5
      refine r_iald ok76 40 rfl rfl (rel_shp ho (i := 38) rfl) c6 ?_
      refine r_iconst (v := 1) ok76 41 rfl rfl rfl ?_
      refine r_iload_n ok76 42 rfl rfl rfl ?_
      refine r_ishl ok76 43 rfl rfl ?_
      refine r_ior ok76 44 rfl rfl ?_
      obtain ⟨c7, h7⟩ := h6
      refine r_iast ok76 45 rfl rfl (rel_shp ho (i := 38) rfl) c7 ?_
      refine r_iinc (v := x4 + 1) ok76 46 rfl rfl rfl rfl ?_
      refine r_goto ok76 47 rfl rfl ?_
      exact h7

theorem K76 {Θ : Th} {d : Nat} {σ : Mem} {Q : Po} {o : Nat} {r1 : Nat} {x2 : Int32} (h : G Θ (d + 1) 76 0 [some (.ref o), some (.ref r1), some (.int x2), none, none] [] σ Q) : Cm Θ (d + 1) 76 [.ref o, .ref r1, .int x2] σ Q :=
  C_of_G okM76 (Nat.le_of_ble_eq_true rfl) rfl h

-- 77: LikeYears$Order.tellAll(LLikeYears$Book;)I
set_option maxRecDepth 100000 in
set_option maxHeartbeats 4000000 in
theorem B77_0 {Θ : Th} {d : Nat} {σ : Mem} {Q : Po} {o : Nat} {r1 : Nat} (ho : (shq o).1 = 8) (hp1 : (shq r1).1 = 1)
    (h : G Θ (d + 1) 77 4 [some (.ref o), some (.ref r1), some (.int (-1)), some (.int 0), none, none] [] σ Q) :
    G Θ (d + 1) 77 0 [some (.ref o), some (.ref r1), none, none, none, none] [] σ Q := by
  refine r_iconst (v := (-1)) ok77 0 rfl rfl rfl ?_
  refine r_istore_n ok77 1 rfl rfl ?_
  refine r_iconst (v := 0) ok77 2 rfl rfl rfl ?_
  refine r_istore_n ok77 3 rfl rfl ?_
  exact h

set_option maxRecDepth 100000 in
set_option maxHeartbeats 4000000 in
theorem B77_4 {Θ : Th} {d : Nat} {σ : Mem} {Q : Po} {o : Nat} {r1 : Nat} {x2 : Int32} {x3 : Int32} (ho : (shq o).1 = 8) (hp1 : (shq r1).1 = 1)
    (h : (((σ.1 r1 10) ≤ x3 → Q (some (.int x2)) σ) ∧ (¬ (σ.1 r1 10) ≤ x3 → (vp_in x3 20 ∧ (vp_in x3 20 ∧ ((0 ≤ x2 → (vp_in (σ.1 (r1 + 8) x3.toNatClampNeg) 16 ∧ (vp_in (σ.1 (r1 + 9) x3.toNatClampNeg) 16 ∧ Cv Θ d 78 [.ref o, .int (σ.1 (o + 2) (σ.1 (r1 + 8) x3.toNatClampNeg).toNatClampNeg), .int (σ.1 (o + 1) (σ.1 (r1 + 9) x3.toNatClampNeg).toNatClampNeg)] σ (fun σ7 => G Θ (d + 1) 77 4 [some (.ref o), some (.ref r1), some (.int x2), some (.int (x3 + 1)), none, none] [] σ7 Q)))) ∧ (¬ 0 ≤ x2 → Ci Θ d 79 [.ref o, .int (σ.1 (r1 + 9) x3.toNatClampNeg), .int (σ.1 (r1 + 8) x3.toNatClampNeg)] σ (fun v8 σ8 => ((v8 = 0 → (vp_in (σ.1 (r1 + 8) x3.toNatClampNeg) 16 ∧ (vp_in (σ.1 (r1 + 9) x3.toNatClampNeg) 16 ∧ Cv Θ d 78 [.ref o, .int (σ8.1 (o + 2) (σ.1 (r1 + 8) x3.toNatClampNeg).toNatClampNeg), .int (σ8.1 (o + 1) (σ.1 (r1 + 9) x3.toNatClampNeg).toNatClampNeg)] σ8 (fun σ12 => G Θ (d + 1) 77 4 [some (.ref o), some (.ref r1), some (.int x2), some (.int (x3 + 1)), none, none] [] σ12 Q)))) ∧ (¬ v8 = 0 → (vp_in (σ.1 (r1 + 8) x3.toNatClampNeg) 16 ∧ (vp_in (σ.1 (r1 + 9) x3.toNatClampNeg) 16 ∧ Cv Θ d 78 [.ref o, .int (σ8.1 (o + 2) (σ.1 (r1 + 8) x3.toNatClampNeg).toNatClampNeg), .int (σ8.1 (o + 1) (σ.1 (r1 + 9) x3.toNatClampNeg).toNatClampNeg)] σ8 (fun σ15 => G Θ (d + 1) 77 4 [some (.ref o), some (.ref r1), some (.int x3), some (.int (x3 + 1)), none, none] [] σ15 Q))))))))))))) :
    G Θ (d + 1) 77 4 [some (.ref o), some (.ref r1), some (.int x2), some (.int x3), none, none] [] σ Q := by
  refine r_iload_n ok77 4 rfl rfl rfl ?_
  refine r_aload_n ok77 5 rfl rfl rfl ?_
  refine r_getI ok77 6 rfl rfl hp1 rfl ?_
  refine r_icmp_ge ok77 7 rfl rfl (fun c1 => ?_) (fun c1 => ?_)
  · have h1 := h.1 c1
    refine r_iload_n ok77 39 rfl rfl rfl ?_
    exact r_iret ok77 40 rfl rfl rfl h1
  · have h1 := h.2 c1
    refine r_aload_n ok77 8 rfl rfl rfl ?_
    refine r_getF ok77 9 rfl rfl hp1 rfl ?_
    refine r_iload_n ok77 10 rfl rfl rfl ?_
    obtain ⟨c2, h2⟩ := h1
    refine r_iald ok77 11 rfl rfl (rel_shp hp1 (i := 11) rfl) c2 ?_
    refine r_istore ok77 12 rfl rfl ?_
    refine r_aload_n ok77 13 rfl rfl rfl ?_
    refine r_getF ok77 14 rfl rfl hp1 rfl ?_
    refine r_iload_n ok77 15 rfl rfl rfl ?_
    obtain ⟨c3, h3⟩ := h2
    refine r_iald ok77 16 rfl rfl (rel_shp hp1 (i := 12) rfl) c3 ?_
    refine r_istore ok77 17 rfl rfl ?_
    refine r_iload_n ok77 18 rfl rfl rfl ?_
    refine r_if_ge ok77 19 rfl rfl (fun c4 => ?_) (fun c4 => ?_)
    · have h4 := h3.1 c4
      refine r_aload_n ok77 27 rfl rfl rfl ?_
      refine r_aload_n ok77 28 rfl rfl rfl ?_
      refine r_getF ok77 29 rfl rfl ho rfl ?_
      refine r_iload ok77 30 rfl rfl rfl ?_
      obtain ⟨c5, h5⟩ := h4
      refine r_iald ok77 31 rfl rfl (rel_shp ho (i := 38) rfl) c5 ?_
      refine r_aload_n ok77 32 rfl rfl rfl ?_
      refine r_getF ok77 33 rfl rfl ho rfl ?_
      refine r_iload ok77 34 rfl rfl rfl ?_
      obtain ⟨c6, h6⟩ := h5
      refine r_iald ok77 35 rfl rfl (rel_shp ho (i := 37) rfl) c6 ?_
      refine r_invVv (as := [.int (σ.1 (o + 2) (σ.1 (r1 + 8) x3.toNatClampNeg).toNatClampNeg), .int (σ.1 (o + 1) (σ.1 (r1 + 9) x3.toNatClampNeg).toNatClampNeg)]) (S := []) ok77 36 rfl rfl mf78 ho rfl (Nat.le_of_ble_eq_true rfl) rfl h6 (fun σ7 h7 => ?_)
      refine r_iinc (v := x3 + 1) ok77 37 rfl rfl rfl rfl ?_
      refine r_goto ok77 38 rfl rfl ?_
      exact G.weak (L' := [some (.ref o), some (.ref r1), some (.int x2), some (.int (x3 + 1)), none, none]) ⟨rfl, ⟨rfl, ⟨rfl, ⟨rfl, trivial⟩⟩⟩⟩ h7
    · have h4 := h3.2 c4
      refine r_aload_n ok77 20 rfl rfl rfl ?_
      refine r_iload ok77 21 rfl rfl rfl ?_
      refine r_iload ok77 22 rfl rfl rfl ?_
      refine r_invVi (as := [.int (σ.1 (r1 + 9) x3.toNatClampNeg), .int (σ.1 (r1 + 8) x3.toNatClampNeg)]) (S := []) ok77 23 rfl rfl mf79 ho rfl (Nat.le_of_ble_eq_true rfl) rfl h4 (fun v8 σ8 h8 => ?_)
      refine r_if_eq ok77 24 rfl rfl (fun c9 => ?_) (fun c9 => ?_)
      · have h9 := h8.1 c9
        refine r_aload_n ok77 27 rfl rfl rfl ?_
        refine r_aload_n ok77 28 rfl rfl rfl ?_
        refine r_getF ok77 29 rfl rfl ho rfl ?_
        refine r_iload ok77 30 rfl rfl rfl ?_
        obtain ⟨c10, h10⟩ := h9
        refine r_iald ok77 31 rfl rfl (rel_shp ho (i := 38) rfl) c10 ?_
        refine r_aload_n ok77 32 rfl rfl rfl ?_
        refine r_getF ok77 33 rfl rfl ho rfl ?_
        refine r_iload ok77 34 rfl rfl rfl ?_
        obtain ⟨c11, h11⟩ := h10
        refine r_iald ok77 35 rfl rfl (rel_shp ho (i := 37) rfl) c11 ?_
        refine r_invVv (as := [.int (σ8.1 (o + 2) (σ.1 (r1 + 8) x3.toNatClampNeg).toNatClampNeg), .int (σ8.1 (o + 1) (σ.1 (r1 + 9) x3.toNatClampNeg).toNatClampNeg)]) (S := []) ok77 36 rfl rfl mf78 ho rfl (Nat.le_of_ble_eq_true rfl) rfl h11 (fun σ12 h12 => ?_)
        refine r_iinc (v := x3 + 1) ok77 37 rfl rfl rfl rfl ?_
        refine r_goto ok77 38 rfl rfl ?_
        exact G.weak (L' := [some (.ref o), some (.ref r1), some (.int x2), some (.int (x3 + 1)), none, none]) ⟨rfl, ⟨rfl, ⟨rfl, ⟨rfl, trivial⟩⟩⟩⟩ h12
      · have h9 := h8.2 c9
        refine r_iload_n ok77 25 rfl rfl rfl ?_
        refine r_istore_n ok77 26 rfl rfl ?_
        refine r_aload_n ok77 27 rfl rfl rfl ?_
        refine r_aload_n ok77 28 rfl rfl rfl ?_
        refine r_getF ok77 29 rfl rfl ho rfl ?_
        refine r_iload ok77 30 rfl rfl rfl ?_
        obtain ⟨c13, h13⟩ := h9
        refine r_iald ok77 31 rfl rfl (rel_shp ho (i := 38) rfl) c13 ?_
        refine r_aload_n ok77 32 rfl rfl rfl ?_
        refine r_getF ok77 33 rfl rfl ho rfl ?_
        refine r_iload ok77 34 rfl rfl rfl ?_
        obtain ⟨c14, h14⟩ := h13
        refine r_iald ok77 35 rfl rfl (rel_shp ho (i := 37) rfl) c14 ?_
        refine r_invVv (as := [.int (σ8.1 (o + 2) (σ.1 (r1 + 8) x3.toNatClampNeg).toNatClampNeg), .int (σ8.1 (o + 1) (σ.1 (r1 + 9) x3.toNatClampNeg).toNatClampNeg)]) (S := []) ok77 36 rfl rfl mf78 ho rfl (Nat.le_of_ble_eq_true rfl) rfl h14 (fun σ15 h15 => ?_)
        refine r_iinc (v := x3 + 1) ok77 37 rfl rfl rfl rfl ?_
        refine r_goto ok77 38 rfl rfl ?_
        exact G.weak (L' := [some (.ref o), some (.ref r1), some (.int x3), some (.int (x3 + 1)), none, none]) ⟨rfl, ⟨rfl, ⟨rfl, ⟨rfl, trivial⟩⟩⟩⟩ h15

theorem K77 {Θ : Th} {d : Nat} {σ : Mem} {Q : Po} {o : Nat} {r1 : Nat} (h : G Θ (d + 1) 77 0 [some (.ref o), some (.ref r1), none, none, none, none] [] σ Q) : Cm Θ (d + 1) 77 [.ref o, .ref r1] σ Q :=
  C_of_G okM77 (Nat.le_of_ble_eq_true rfl) rfl h

-- 78: LikeYears$Order.tell(II)V
set_option maxRecDepth 100000 in
set_option maxHeartbeats 4000000 in
theorem B78_0 {Θ : Th} {d : Nat} {σ : Mem} {Q : Po} {o : Nat} {x1 : Int32} {x2 : Int32} (ho : (shq o).1 = 8)
    (h : G Θ d 78 2 [some (.ref o), some (.int x1), some (.int x2), some (.int 0)] [] σ Q) :
    G Θ d 78 0 [some (.ref o), some (.int x1), some (.int x2), none] [] σ Q := by
  refine r_iconst (v := 0) ok78 0 rfl rfl rfl ?_
  refine r_istore_n ok78 1 rfl rfl ?_
  exact h

set_option maxRecDepth 100000 in
set_option maxHeartbeats 4000000 in
theorem B78_2 {Θ : Th} {d : Nat} {σ : Mem} {Q : Po} {o : Nat} {x1 : Int32} {x2 : Int32} {x3 : Int32} (ho : (shq o).1 = 8)
    (h : ((16 ≤ x3 → Q none σ) ∧ (¬ 16 ≤ x3 → ((((x1 >>> (x3 &&& 31)) &&& 1) = 0 → ((((x2 >>> (x3 &&& 31)) &&& 1) = 0 → G Θ d 78 2 [some (.ref o), some (.int x1), some (.int x2), some (.int (x3 + 1))] [] σ Q) ∧ (¬ ((x2 >>> (x3 &&& 31)) &&& 1) = 0 → (vp_in x3 16 ∧ (vp_in x3 16 ∧ G Θ d 78 2 [some (.ref o), some (.int x1), some (.int x2), some (.int (x3 + 1))] [] (sI σ (o + 2) (x3.toNatClampNeg) ((σ.1 (o + 2) x3.toNatClampNeg) ||| x1)) Q))))) ∧ (¬ ((x1 >>> (x3 &&& 31)) &&& 1) = 0 → (vp_in x3 16 ∧ (vp_in x3 16 ∧ ((((x2 >>> (x3 &&& 31)) &&& 1) = 0 → G Θ d 78 2 [some (.ref o), some (.int x1), some (.int x2), some (.int (x3 + 1))] [] (sI σ (o + 1) (x3.toNatClampNeg) ((σ.1 (o + 1) x3.toNatClampNeg) ||| x2)) Q) ∧ (¬ ((x2 >>> (x3 &&& 31)) &&& 1) = 0 → (vp_in x3 16 ∧ (vp_in x3 16 ∧ G Θ d 78 2 [some (.ref o), some (.int x1), some (.int x2), some (.int (x3 + 1))] [] (sI (sI σ (o + 1) (x3.toNatClampNeg) ((σ.1 (o + 1) x3.toNatClampNeg) ||| x2)) (o + 2) (x3.toNatClampNeg) (((sI σ (o + 1) (x3.toNatClampNeg) ((σ.1 (o + 1) x3.toNatClampNeg) ||| x2)).1 (o + 2) x3.toNatClampNeg) ||| x1)) Q))))))))))) :
    G Θ d 78 2 [some (.ref o), some (.int x1), some (.int x2), some (.int x3)] [] σ Q := by
  refine r_iload_n ok78 2 rfl rfl rfl ?_
  refine r_bipush (v := 16) ok78 3 rfl rfl rfl ?_
  refine r_icmp_ge ok78 4 rfl rfl (fun c1 => ?_) (fun c1 => ?_)
  · have h1 := h.1 c1
    exact r_ret ok78 35 rfl rfl rfl h1
  · have h1 := h.2 c1
    refine r_iload_n ok78 5 rfl rfl rfl ?_
    refine r_iload_n ok78 6 rfl rfl rfl ?_
    refine r_ishr ok78 7 rfl rfl ?_
    refine r_iconst (v := 1) ok78 8 rfl rfl rfl ?_
    refine r_iand ok78 9 rfl rfl ?_
    refine r_if_eq ok78 10 rfl rfl (fun c2 => ?_) (fun c2 => ?_)
    · have h2 := h1.1 c2
      refine r_iload_n ok78 19 rfl rfl rfl ?_
      refine r_iload_n ok78 20 rfl rfl rfl ?_
      refine r_ishr ok78 21 rfl rfl ?_
      refine r_iconst (v := 1) ok78 22 rfl rfl rfl ?_
      refine r_iand ok78 23 rfl rfl ?_
      refine r_if_eq ok78 24 rfl rfl (fun c3 => ?_) (fun c3 => ?_)
      · have h3 := h2.1 c3
        refine r_iinc (v := x3 + 1) ok78 33 rfl rfl rfl rfl ?_
        refine r_goto ok78 34 rfl rfl ?_
        exact h3
      · have h3 := h2.2 c3
        refine r_aload_n ok78 25 rfl rfl rfl ?_
        refine r_getF ok78 26 rfl rfl ho rfl ?_
        refine r_iload_n ok78 27 rfl rfl rfl ?_
        refine r_dup2a ok78 28 rfl rfl rfl rfl ?_
        obtain ⟨c4, h4⟩ := h3
        refine r_iald ok78 29 rfl rfl (rel_shp ho (i := 38) rfl) c4 ?_
        refine r_iload_n ok78 30 rfl rfl rfl ?_
        refine r_ior ok78 31 rfl rfl ?_
        obtain ⟨c5, h5⟩ := h4
        refine r_iast ok78 32 rfl rfl (rel_shp ho (i := 38) rfl) c5 ?_
        refine r_iinc (v := x3 + 1) ok78 33 rfl rfl rfl rfl ?_
        refine r_goto ok78 34 rfl rfl ?_
        exact h5
    · have h2 := h1.2 c2
      refine r_aload_n ok78 11 rfl rfl rfl ?_
      refine r_getF ok78 12 rfl rfl ho rfl ?_
      refine r_iload_n ok78 13 rfl rfl rfl ?_
      refine r_dup2a ok78 14 rfl rfl rfl rfl ?_
      obtain ⟨c6, h6⟩ := h2
      refine r_iald ok78 15 rfl rfl (rel_shp ho (i := 37) rfl) c6 ?_
      refine r_iload_n ok78 16 rfl rfl rfl ?_
      refine r_ior ok78 17 rfl rfl ?_
      obtain ⟨c7, h7⟩ := h6
      refine r_iast ok78 18 rfl rfl (rel_shp ho (i := 37) rfl) c7 ?_
      refine r_iload_n ok78 19 rfl rfl rfl ?_
      refine r_iload_n ok78 20 rfl rfl rfl ?_
      refine r_ishr ok78 21 rfl rfl ?_
      refine r_iconst (v := 1) ok78 22 rfl rfl rfl ?_
      refine r_iand ok78 23 rfl rfl ?_
      refine r_if_eq ok78 24 rfl rfl (fun c8 => ?_) (fun c8 => ?_)
      · have h8 := h7.1 c8
        refine r_iinc (v := x3 + 1) ok78 33 rfl rfl rfl rfl ?_
        refine r_goto ok78 34 rfl rfl ?_
        exact h8
      · have h8 := h7.2 c8
        refine r_aload_n ok78 25 rfl rfl rfl ?_
        refine r_getF ok78 26 rfl rfl ho rfl ?_
        refine r_iload_n ok78 27 rfl rfl rfl ?_
        refine r_dup2a ok78 28 rfl rfl rfl rfl ?_
        obtain ⟨c9, h9⟩ := h8
        refine r_iald ok78 29 rfl rfl (rel_shp ho (i := 38) rfl) c9 ?_
        refine r_iload_n ok78 30 rfl rfl rfl ?_
        refine r_ior ok78 31 rfl rfl ?_
        obtain ⟨c10, h10⟩ := h9
        refine r_iast ok78 32 rfl rfl (rel_shp ho (i := 38) rfl) c10 ?_
        refine r_iinc (v := x3 + 1) ok78 33 rfl rfl rfl rfl ?_
        refine r_goto ok78 34 rfl rfl ?_
        exact h10

theorem K78 {Θ : Th} {d : Nat} {σ : Mem} {Q : Po} {o : Nat} {x1 : Int32} {x2 : Int32} (h : G Θ d 78 0 [some (.ref o), some (.int x1), some (.int x2), none] [] σ Q) : Cm Θ d 78 [.ref o, .int x1, .int x2] σ Q :=
  C_of_G okM78 (Nat.le_of_ble_eq_true rfl) rfl h

-- 79: LikeYears$Order.isOver(II)Z
set_option maxRecDepth 100000 in
set_option maxHeartbeats 4000000 in
theorem B79_0 {Θ : Th} {d : Nat} {σ : Mem} {Q : Po} {o : Nat} {x1 : Int32} {x2 : Int32} (ho : (shq o).1 = 8)
    (h : (vp_in x1 16 ∧ (((((σ.1 (o + 1) x1.toNatClampNeg) >>> (x2 &&& 31)) &&& 1) = 0 → Q (some (.int 0)) σ) ∧ (¬ (((σ.1 (o + 1) x1.toNatClampNeg) >>> (x2 &&& 31)) &&& 1) = 0 → Q (some (.int 1)) σ)))) :
    G Θ d 79 0 [some (.ref o), some (.int x1), some (.int x2)] [] σ Q := by
  refine r_aload_n ok79 0 rfl rfl rfl ?_
  refine r_getF ok79 1 rfl rfl ho rfl ?_
  refine r_iload_n ok79 2 rfl rfl rfl ?_
  obtain ⟨c1, h1⟩ := h
  refine r_iald ok79 3 rfl rfl (rel_shp ho (i := 37) rfl) c1 ?_
  refine r_iload_n ok79 4 rfl rfl rfl ?_
  refine r_ishr ok79 5 rfl rfl ?_
  refine r_iconst (v := 1) ok79 6 rfl rfl rfl ?_
  refine r_iand ok79 7 rfl rfl ?_
  refine r_if_eq ok79 8 rfl rfl (fun c2 => ?_) (fun c2 => ?_)
  · have h2 := h1.1 c2
    refine r_iconst (v := 0) ok79 11 rfl rfl rfl ?_
    exact r_zret ok79 12 rfl rfl rfl (Or.inl rfl) h2
  · have h2 := h1.2 c2
    refine r_iconst (v := 1) ok79 9 rfl rfl rfl ?_
    refine r_goto ok79 10 rfl rfl ?_
    exact r_zret ok79 12 rfl rfl rfl (Or.inr rfl) h2

theorem K79 {Θ : Th} {d : Nat} {σ : Mem} {Q : Po} {o : Nat} {x1 : Int32} {x2 : Int32} (h : G Θ d 79 0 [some (.ref o), some (.int x1), some (.int x2)] [] σ Q) : Cm Θ d 79 [.ref o, .int x1, .int x2] σ Q :=
  C_of_G okM79 (Nat.le_of_ble_eq_true rfl) rfl h

-- 80: LikeYears$Order.gap(LLikeYears$Book;II)I
set_option maxRecDepth 100000 in
set_option maxHeartbeats 4000000 in
theorem B80_0 {Θ : Th} {d : Nat} {σ : Mem} {Q : Po} {o : Nat} {r1 : Nat} {x2 : Int32} {x3 : Int32} (ho : (shq o).1 = 8) (hp1 : (shq r1).1 = 1)
    (h : (vp_in x2 16 ∧ (vp_in x3 16 ∧ ((0 ≤ ((σ.1 (r1 + 5) x2.toNatClampNeg) - (σ.1 (r1 + 5) x3.toNatClampNeg)) → Ci Θ d 79 [.ref o, .int x3, .int x2] σ (fun v4 σ4 => ((v4 = 0 → Q (some (.int 0)) σ4) ∧ (¬ v4 = 0 → Q (some (.int ((σ.1 (r1 + 5) x2.toNatClampNeg) - (σ.1 (r1 + 5) x3.toNatClampNeg)))) σ4)))) ∧ (¬ 0 ≤ ((σ.1 (r1 + 5) x2.toNatClampNeg) - (σ.1 (r1 + 5) x3.toNatClampNeg)) → Ci Θ d 79 [.ref o, .int x2, .int x3] σ (fun v6 σ6 => ((v6 = 0 → Q (some (.int 0)) σ6) ∧ (¬ v6 = 0 → Q (some (.int (-((σ.1 (r1 + 5) x2.toNatClampNeg) - (σ.1 (r1 + 5) x3.toNatClampNeg))))) σ6)))))))) :
    G Θ (d + 1) 80 0 [some (.ref o), some (.ref r1), some (.int x2), some (.int x3), none] [] σ Q := by
  refine r_aload_n ok80 0 rfl rfl rfl ?_
  refine r_getF ok80 1 rfl rfl hp1 rfl ?_
  refine r_iload_n ok80 2 rfl rfl rfl ?_
  obtain ⟨c1, h1⟩ := h
  refine r_iald ok80 3 rfl rfl (rel_shp hp1 (i := 8) rfl) c1 ?_
  refine r_aload_n ok80 4 rfl rfl rfl ?_
  refine r_getF ok80 5 rfl rfl hp1 rfl ?_
  refine r_iload_n ok80 6 rfl rfl rfl ?_
  obtain ⟨c2, h2⟩ := h1
  refine r_iald ok80 7 rfl rfl (rel_shp hp1 (i := 8) rfl) c2 ?_
  refine r_isub ok80 8 rfl rfl ?_
  refine r_istore ok80 9 rfl rfl ?_
  refine r_iload ok80 10 rfl rfl rfl ?_
  refine r_if_ge ok80 11 rfl rfl (fun c3 => ?_) (fun c3 => ?_)
  · have h3 := h2.1 c3
    refine r_aload_n ok80 22 rfl rfl rfl ?_
    refine r_iload_n ok80 23 rfl rfl rfl ?_
    refine r_iload_n ok80 24 rfl rfl rfl ?_
    refine r_invVi (as := [.int x3, .int x2]) (S := []) ok80 25 rfl rfl mf79 ho rfl (Nat.le_of_ble_eq_true rfl) rfl h3 (fun v4 σ4 h4 => ?_)
    refine r_if_eq ok80 26 rfl rfl (fun c5 => ?_) (fun c5 => ?_)
    · have h5 := h4.1 c5
      refine r_iconst (v := 0) ok80 29 rfl rfl rfl ?_
      exact r_iret ok80 30 rfl rfl rfl h5
    · have h5 := h4.2 c5
      refine r_iload ok80 27 rfl rfl rfl ?_
      refine r_goto ok80 28 rfl rfl ?_
      exact r_iret ok80 30 rfl rfl rfl h5
  · have h3 := h2.2 c3
    refine r_aload_n ok80 12 rfl rfl rfl ?_
    refine r_iload_n ok80 13 rfl rfl rfl ?_
    refine r_iload_n ok80 14 rfl rfl rfl ?_
    refine r_invVi (as := [.int x2, .int x3]) (S := []) ok80 15 rfl rfl mf79 ho rfl (Nat.le_of_ble_eq_true rfl) rfl h3 (fun v6 σ6 h6 => ?_)
    refine r_if_eq ok80 16 rfl rfl (fun c7 => ?_) (fun c7 => ?_)
    · have h7 := h6.1 c7
      refine r_iconst (v := 0) ok80 20 rfl rfl rfl ?_
      exact r_iret ok80 21 rfl rfl rfl h7
    · have h7 := h6.2 c7
      refine r_iload ok80 17 rfl rfl rfl ?_
      refine r_ineg ok80 18 rfl rfl ?_
      refine r_goto ok80 19 rfl rfl ?_
      exact r_iret ok80 21 rfl rfl rfl h7

theorem K80 {Θ : Th} {d : Nat} {σ : Mem} {Q : Po} {o : Nat} {r1 : Nat} {x2 : Int32} {x3 : Int32} (h : G Θ (d + 1) 80 0 [some (.ref o), some (.ref r1), some (.int x2), some (.int x3), none] [] σ Q) : Cm Θ (d + 1) 80 [.ref o, .ref r1, .int x2, .int x3] σ Q :=
  C_of_G okM80 (Nat.le_of_ble_eq_true rfl) rfl h

-- 81: LikeYears$Order.foes(LLikeYears$Book;I)I
set_option maxRecDepth 100000 in
set_option maxHeartbeats 4000000 in
theorem B81_0 {Θ : Th} {d : Nat} {σ : Mem} {Q : Po} {o : Nat} {r1 : Nat} {x2 : Int32} (ho : (shq o).1 = 8) (hp1 : (shq r1).1 = 1)
    (h : G Θ (d + 1) 81 5 [some (.ref o), some (.ref r1), some (.int x2), some (.int 0), some (.int 0)] [] σ Q) :
    G Θ (d + 1) 81 0 [some (.ref o), some (.ref r1), some (.int x2), none, none] [] σ Q := by
  refine r_iconst (v := 0) ok81 0 rfl rfl rfl ?_
  refine r_istore_n ok81 1 rfl rfl ?_
  refine r_iconst (v := 0) ok81 2 rfl rfl rfl ?_
  refine r_istore ok81 3 rfl rfl ?_
  exact h

set_option maxRecDepth 100000 in
set_option maxHeartbeats 4000000 in
theorem B81_5 {Θ : Th} {d : Nat} {σ : Mem} {Q : Po} {o : Nat} {r1 : Nat} {x2 : Int32} {x3 : Int32} {x4 : Int32} (ho : (shq o).1 = 8) (hp1 : (shq r1).1 = 1)
    (h : (((σ.1 r1 4) ≤ x4 → Q (some (.int x3)) σ) ∧ (¬ (σ.1 r1 4) ≤ x4 → Ci Θ d 80 [.ref o, .ref r1, .int x2, .int x4] σ (fun v2 σ2 => ((v2 ≤ 0 → G Θ (d + 1) 81 5 [some (.ref o), some (.ref r1), some (.int x2), some (.int x3), some (.int (x4 + 1))] [] σ2 Q) ∧ (¬ v2 ≤ 0 → G Θ (d + 1) 81 5 [some (.ref o), some (.ref r1), some (.int x2), some (.int (x3 ||| ((1 : Int32) <<< (x4 &&& 31)))), some (.int (x4 + 1))] [] σ2 Q)))))) :
    G Θ (d + 1) 81 5 [some (.ref o), some (.ref r1), some (.int x2), some (.int x3), some (.int x4)] [] σ Q := by
  refine r_iload ok81 4 rfl rfl rfl ?_
  refine r_aload_n ok81 5 rfl rfl rfl ?_
  refine r_getI ok81 6 rfl rfl hp1 rfl ?_
  refine r_icmp_ge ok81 7 rfl rfl (fun c1 => ?_) (fun c1 => ?_)
  · have h1 := h.1 c1
    refine r_iload_n ok81 22 rfl rfl rfl ?_
    exact r_iret ok81 23 rfl rfl rfl h1
  · have h1 := h.2 c1
    refine r_aload_n ok81 8 rfl rfl rfl ?_
    refine r_aload_n ok81 9 rfl rfl rfl ?_
    refine r_iload_n ok81 10 rfl rfl rfl ?_
    refine r_iload ok81 11 rfl rfl rfl ?_
    refine r_invVi (as := [.ref r1, .int x2, .int x4]) (S := []) ok81 12 rfl rfl mf80 ho rfl (Nat.le_of_ble_eq_true rfl) rfl h1 (fun v2 σ2 h2 => ?_)
    refine r_if_le ok81 13 rfl rfl (fun c3 => ?_) (fun c3 => ?_)
    · have h3 := h2.1 c3
      refine r_iinc (v := x4 + 1) ok81 20 rfl rfl rfl rfl ?_
      refine r_goto ok81 21 rfl rfl ?_
      exact h3
    · have h3 := h2.2 c3
      refine r_iload_n ok81 14 rfl rfl rfl ?_
      refine r_iconst (v := 1) ok81 15 rfl rfl rfl ?_
      refine r_iload ok81 16 rfl rfl rfl ?_
      refine r_ishl ok81 17 rfl rfl ?_
      refine r_ior ok81 18 rfl rfl ?_
      refine r_istore_n ok81 19 rfl rfl ?_
      refine r_iinc (v := x4 + 1) ok81 20 rfl rfl rfl rfl ?_
      refine r_goto ok81 21 rfl rfl ?_
      exact h3

theorem K81 {Θ : Th} {d : Nat} {σ : Mem} {Q : Po} {o : Nat} {r1 : Nat} {x2 : Int32} (h : G Θ (d + 1) 81 0 [some (.ref o), some (.ref r1), some (.int x2), none, none] [] σ Q) : Cm Θ (d + 1) 81 [.ref o, .ref r1, .int x2] σ Q :=
  C_of_G okM81 (Nat.le_of_ble_eq_true rfl) rfl h

-- 82: LikeYears$Order.gapsOf(LLikeYears$Book;I)I
set_option maxRecDepth 100000 in
set_option maxHeartbeats 4000000 in
theorem B82_0 {Θ : Th} {d : Nat} {σ : Mem} {Q : Po} {o : Nat} {r1 : Nat} {x2 : Int32} (ho : (shq o).1 = 8) (hp1 : (shq r1).1 = 1)
    (h : G Θ (d + 1) 82 5 [some (.ref o), some (.ref r1), some (.int x2), some (.int 0), some (.int 0)] [] σ Q) :
    G Θ (d + 1) 82 0 [some (.ref o), some (.ref r1), some (.int x2), none, none] [] σ Q := by
  refine r_iconst (v := 0) ok82 0 rfl rfl rfl ?_
  refine r_istore_n ok82 1 rfl rfl ?_
  refine r_iconst (v := 0) ok82 2 rfl rfl rfl ?_
  refine r_istore ok82 3 rfl rfl ?_
  exact h

set_option maxRecDepth 100000 in
set_option maxHeartbeats 4000000 in
theorem B82_5 {Θ : Th} {d : Nat} {σ : Mem} {Q : Po} {o : Nat} {r1 : Nat} {x2 : Int32} {x3 : Int32} {x4 : Int32} (ho : (shq o).1 = 8) (hp1 : (shq r1).1 = 1)
    (h : (((σ.1 r1 4) ≤ x4 → Q (some (.int x3)) σ) ∧ (¬ (σ.1 r1 4) ≤ x4 → Ci Θ d 80 [.ref o, .ref r1, .int x2, .int x4] σ (fun v2 σ2 => G Θ (d + 1) 82 5 [some (.ref o), some (.ref r1), some (.int x2), some (.int (x3 + v2)), some (.int (x4 + 1))] [] σ2 Q)))) :
    G Θ (d + 1) 82 5 [some (.ref o), some (.ref r1), some (.int x2), some (.int x3), some (.int x4)] [] σ Q := by
  refine r_iload ok82 4 rfl rfl rfl ?_
  refine r_aload_n ok82 5 rfl rfl rfl ?_
  refine r_getI ok82 6 rfl rfl hp1 rfl ?_
  refine r_icmp_ge ok82 7 rfl rfl (fun c1 => ?_) (fun c1 => ?_)
  · have h1 := h.1 c1
    refine r_iload_n ok82 18 rfl rfl rfl ?_
    exact r_iret ok82 19 rfl rfl rfl h1
  · have h1 := h.2 c1
    refine r_iload_n ok82 8 rfl rfl rfl ?_
    refine r_aload_n ok82 9 rfl rfl rfl ?_
    refine r_aload_n ok82 10 rfl rfl rfl ?_
    refine r_iload_n ok82 11 rfl rfl rfl ?_
    refine r_iload ok82 12 rfl rfl rfl ?_
    refine r_invVi (as := [.ref r1, .int x2, .int x4]) (S := [.int x3]) ok82 13 rfl rfl mf80 ho rfl (Nat.le_of_ble_eq_true rfl) rfl h1 (fun v2 σ2 h2 => ?_)
    refine r_iadd ok82 14 rfl rfl ?_
    refine r_istore_n ok82 15 rfl rfl ?_
    refine r_iinc (v := x4 + 1) ok82 16 rfl rfl rfl rfl ?_
    refine r_goto ok82 17 rfl rfl ?_
    exact h2

theorem K82 {Θ : Th} {d : Nat} {σ : Mem} {Q : Po} {o : Nat} {r1 : Nat} {x2 : Int32} (h : G Θ (d + 1) 82 0 [some (.ref o), some (.ref r1), some (.int x2), none, none] [] σ Q) : Cm Θ (d + 1) 82 [.ref o, .ref r1, .int x2] σ Q :=
  C_of_G okM82 (Nat.le_of_ble_eq_true rfl) rfl h

-- 83: LikeYears$Order.pairs(LLikeYears$Book;Z)I
set_option maxRecDepth 100000 in
set_option maxHeartbeats 4000000 in
theorem B83_0 {Θ : Th} {d : Nat} {σ : Mem} {Q : Po} {o : Nat} {r1 : Nat} {x2 : Int32} (ho : (shq o).1 = 8) (hp1 : (shq r1).1 = 1)
    (h : G Θ (d + 1) 83 5 [some (.ref o), some (.ref r1), some (.int x2), some (.int 0), some (.int 0), none, none] [] σ Q) :
    G Θ (d + 1) 83 0 [some (.ref o), some (.ref r1), some (.int x2), none, none, none, none] [] σ Q := by
  refine r_iconst (v := 0) ok83 0 rfl rfl rfl ?_
  refine r_istore_n ok83 1 rfl rfl ?_
  refine r_iconst (v := 0) ok83 2 rfl rfl rfl ?_
  refine r_istore ok83 3 rfl rfl ?_
  exact h

set_option maxRecDepth 100000 in
set_option maxHeartbeats 4000000 in
theorem B83_5 {Θ : Th} {d : Nat} {σ : Mem} {Q : Po} {o : Nat} {r1 : Nat} {x2 : Int32} {x3 : Int32} {x4 : Int32} (ho : (shq o).1 = 8) (hp1 : (shq r1).1 = 1)
    (h : (((σ.1 r1 4) ≤ x4 → Q (some (.int x3)) σ) ∧ (¬ (σ.1 r1 4) ≤ x4 → G Θ (d + 1) 83 17 [some (.ref o), some (.ref r1), some (.int x2), some (.int x3), some (.int x4), some (.int 0), none] [] σ Q))) :
    G Θ (d + 1) 83 5 [some (.ref o), some (.ref r1), some (.int x2), some (.int x3), some (.int x4), none, none] [] σ Q := by
  refine r_iload ok83 4 rfl rfl rfl ?_
  refine r_aload_n ok83 5 rfl rfl rfl ?_
  refine r_getI ok83 6 rfl rfl hp1 rfl ?_
  refine r_icmp_ge ok83 7 rfl rfl (fun c1 => ?_) (fun c1 => ?_)
  · have h1 := h.1 c1
    refine r_iload_n ok83 46 rfl rfl rfl ?_
    exact r_iret ok83 47 rfl rfl rfl h1
  · have h1 := h.2 c1
    refine r_iconst (v := 0) ok83 8 rfl rfl rfl ?_
    refine r_istore ok83 9 rfl rfl ?_
    exact h1

set_option maxRecDepth 100000 in
set_option maxHeartbeats 4000000 in
theorem B83_17 {Θ : Th} {d : Nat} {σ : Mem} {Q : Po} {o : Nat} {r1 : Nat} {x2 : Int32} {x3 : Int32} {x4 : Int32} {x5 : Int32} (ho : (shq o).1 = 8) (hp1 : (shq r1).1 = 1)
    (h : ((x4 ≤ x5 → G Θ (d + 1) 83 5 [some (.ref o), some (.ref r1), some (.int x2), some (.int x3), some (.int (x4 + 1)), none, none] [] σ Q) ∧ (¬ x4 ≤ x5 → ((x2 = 0 → Ci Θ d 80 [.ref o, .ref r1, .int x4, .int x5] σ (fun v4 σ4 => ((v4 ≤ 0 → G Θ (d + 1) 83 17 [some (.ref o), some (.ref r1), some (.int x2), some (.int (x3 + 0)), some (.int x4), some (.int (x5 + 1)), none] [] σ4 Q) ∧ (¬ v4 ≤ 0 → G Θ (d + 1) 83 17 [some (.ref o), some (.ref r1), some (.int x2), some (.int (x3 + 1)), some (.int x4), some (.int (x5 + 1)), none] [] σ4 Q)))) ∧ (¬ x2 = 0 → (vp_in x4 16 ∧ (vp_in x5 16 ∧ ((¬ (σ.1 (r1 + 4) x4.toNatClampNeg) = (σ.1 (r1 + 4) x5.toNatClampNeg) → G Θ (d + 1) 83 17 [some (.ref o), some (.ref r1), some (.int x2), some (.int (x3 + 0)), some (.int x4), some (.int (x5 + 1)), none] [] σ Q) ∧ ((σ.1 (r1 + 4) x4.toNatClampNeg) = (σ.1 (r1 + 4) x5.toNatClampNeg) → Ci Θ d 80 [.ref o, .ref r1, .int x4, .int x5] σ (fun v11 σ11 => ((v11 ≤ 0 → G Θ (d + 1) 83 17 [some (.ref o), some (.ref r1), some (.int x2), some (.int (x3 + 0)), some (.int x4), some (.int (x5 + 1)), none] [] σ11 Q) ∧ (¬ v11 ≤ 0 → G Θ (d + 1) 83 17 [some (.ref o), some (.ref r1), some (.int x2), some (.int (x3 + 1)), some (.int x4), some (.int (x5 + 1)), none] [] σ11 Q)))))))))))) :
    G Θ (d + 1) 83 17 [some (.ref o), some (.ref r1), some (.int x2), some (.int x3), some (.int x4), some (.int x5), none] [] σ Q := by
  refine r_iload ok83 10 rfl rfl rfl ?_
  refine r_iload ok83 11 rfl rfl rfl ?_
  refine r_icmp_ge ok83 12 rfl rfl (fun c1 => ?_) (fun c1 => ?_)
  · have h1 := h.1 c1
    refine r_iinc (v := x4 + 1) ok83 44 rfl rfl rfl rfl ?_
    refine r_goto ok83 45 rfl rfl ?_
    exact G.weak (L' := [some (.ref o), some (.ref r1), some (.int x2), some (.int x3), some (.int (x4 + 1)), none, none]) ⟨rfl, ⟨rfl, ⟨rfl, ⟨rfl, ⟨rfl, trivial⟩⟩⟩⟩⟩ h1
  · have h1 := h.2 c1
    refine r_iload_n ok83 13 rfl rfl rfl ?_
    refine r_if_eq ok83 14 rfl rfl (fun c2 => ?_) (fun c2 => ?_)
    · have h2 := h1.1 c2
      refine r_iconst (v := 1) ok83 24 rfl rfl rfl ?_
      refine r_goto ok83 25 rfl rfl ?_
      refine r_istore ok83 27 rfl rfl ?_
      refine r_iload_n ok83 28 rfl rfl rfl ?_
      refine r_iload ok83 29 rfl rfl rfl ?_
      refine r_if_eq ok83 30 rfl rfl (fun c3 => absurd c3 (by decide)) (fun _ => ?_)
      refine r_aload_n ok83 31 rfl rfl rfl ?_
      refine r_aload_n ok83 32 rfl rfl rfl ?_
      refine r_iload ok83 33 rfl rfl rfl ?_
      refine r_iload ok83 34 rfl rfl rfl ?_
      refine r_invVi (as := [.ref r1, .int x4, .int x5]) (S := [.int x3]) ok83 35 rfl rfl mf80 ho rfl (Nat.le_of_ble_eq_true rfl) rfl h2 (fun v4 σ4 h4 => ?_)
      refine r_if_le ok83 36 rfl rfl (fun c5 => ?_) (fun c5 => ?_)
      · have h5 := h4.1 c5
        refine r_iconst (v := 0) ok83 39 rfl rfl rfl ?_
        refine r_iadd ok83 40 rfl rfl ?_
        refine r_istore_n ok83 41 rfl rfl ?_
        refine r_iinc (v := x5 + 1) ok83 42 rfl rfl rfl rfl ?_
        refine r_goto ok83 43 rfl rfl ?_
        exact G.weak (L' := [some (.ref o), some (.ref r1), some (.int x2), some (.int (x3 + 0)), some (.int x4), some (.int (x5 + 1)), none]) ⟨rfl, ⟨rfl, ⟨rfl, ⟨rfl, ⟨rfl, ⟨rfl, trivial⟩⟩⟩⟩⟩⟩ h5
      · have h5 := h4.2 c5
        refine r_iconst (v := 1) ok83 37 rfl rfl rfl ?_
        refine r_goto ok83 38 rfl rfl ?_
        refine r_iadd ok83 40 rfl rfl ?_
        refine r_istore_n ok83 41 rfl rfl ?_
        refine r_iinc (v := x5 + 1) ok83 42 rfl rfl rfl rfl ?_
        refine r_goto ok83 43 rfl rfl ?_
        exact G.weak (L' := [some (.ref o), some (.ref r1), some (.int x2), some (.int (x3 + 1)), some (.int x4), some (.int (x5 + 1)), none]) ⟨rfl, ⟨rfl, ⟨rfl, ⟨rfl, ⟨rfl, ⟨rfl, trivial⟩⟩⟩⟩⟩⟩ h5
    · have h2 := h1.2 c2
      refine r_aload_n ok83 15 rfl rfl rfl ?_
      refine r_getF ok83 16 rfl rfl hp1 rfl ?_
      refine r_iload ok83 17 rfl rfl rfl ?_
      obtain ⟨c6, h6⟩ := h2
      refine r_iald ok83 18 rfl rfl (rel_shp hp1 (i := 7) rfl) c6 ?_
      refine r_aload_n ok83 19 rfl rfl rfl ?_
      refine r_getF ok83 20 rfl rfl hp1 rfl ?_
      refine r_iload ok83 21 rfl rfl rfl ?_
      obtain ⟨c7, h7⟩ := h6
      refine r_iald ok83 22 rfl rfl (rel_shp hp1 (i := 7) rfl) c7 ?_
      refine r_icmp_ne ok83 23 rfl rfl (fun c8 => ?_) (fun c8 => ?_)
      · have h8 := h7.1 c8
        refine r_iconst (v := 0) ok83 26 rfl rfl rfl ?_
        refine r_istore ok83 27 rfl rfl ?_
        refine r_iload_n ok83 28 rfl rfl rfl ?_
        refine r_iload ok83 29 rfl rfl rfl ?_
        refine r_if_eq ok83 30 rfl rfl (fun _ => ?_) (fun c9 => absurd c9 (by decide))
        refine r_iconst (v := 0) ok83 39 rfl rfl rfl ?_
        refine r_iadd ok83 40 rfl rfl ?_
        refine r_istore_n ok83 41 rfl rfl ?_
        refine r_iinc (v := x5 + 1) ok83 42 rfl rfl rfl rfl ?_
        refine r_goto ok83 43 rfl rfl ?_
        exact G.weak (L' := [some (.ref o), some (.ref r1), some (.int x2), some (.int (x3 + 0)), some (.int x4), some (.int (x5 + 1)), none]) ⟨rfl, ⟨rfl, ⟨rfl, ⟨rfl, ⟨rfl, ⟨rfl, trivial⟩⟩⟩⟩⟩⟩ h8
      · have h8 := h7.2 c8
        refine r_iconst (v := 1) ok83 24 rfl rfl rfl ?_
        refine r_goto ok83 25 rfl rfl ?_
        refine r_istore ok83 27 rfl rfl ?_
        refine r_iload_n ok83 28 rfl rfl rfl ?_
        refine r_iload ok83 29 rfl rfl rfl ?_
        refine r_if_eq ok83 30 rfl rfl (fun c10 => absurd c10 (by decide)) (fun _ => ?_)
        refine r_aload_n ok83 31 rfl rfl rfl ?_
        refine r_aload_n ok83 32 rfl rfl rfl ?_
        refine r_iload ok83 33 rfl rfl rfl ?_
        refine r_iload ok83 34 rfl rfl rfl ?_
        refine r_invVi (as := [.ref r1, .int x4, .int x5]) (S := [.int x3]) ok83 35 rfl rfl mf80 ho rfl (Nat.le_of_ble_eq_true rfl) rfl h8 (fun v11 σ11 h11 => ?_)
        refine r_if_le ok83 36 rfl rfl (fun c12 => ?_) (fun c12 => ?_)
        · have h12 := h11.1 c12
          refine r_iconst (v := 0) ok83 39 rfl rfl rfl ?_
          refine r_iadd ok83 40 rfl rfl ?_
          refine r_istore_n ok83 41 rfl rfl ?_
          refine r_iinc (v := x5 + 1) ok83 42 rfl rfl rfl rfl ?_
          refine r_goto ok83 43 rfl rfl ?_
          exact G.weak (L' := [some (.ref o), some (.ref r1), some (.int x2), some (.int (x3 + 0)), some (.int x4), some (.int (x5 + 1)), none]) ⟨rfl, ⟨rfl, ⟨rfl, ⟨rfl, ⟨rfl, ⟨rfl, trivial⟩⟩⟩⟩⟩⟩ h12
        · have h12 := h11.2 c12
          refine r_iconst (v := 1) ok83 37 rfl rfl rfl ?_
          refine r_goto ok83 38 rfl rfl ?_
          refine r_iadd ok83 40 rfl rfl ?_
          refine r_istore_n ok83 41 rfl rfl ?_
          refine r_iinc (v := x5 + 1) ok83 42 rfl rfl rfl rfl ?_
          refine r_goto ok83 43 rfl rfl ?_
          exact G.weak (L' := [some (.ref o), some (.ref r1), some (.int x2), some (.int (x3 + 1)), some (.int x4), some (.int (x5 + 1)), none]) ⟨rfl, ⟨rfl, ⟨rfl, ⟨rfl, ⟨rfl, ⟨rfl, trivial⟩⟩⟩⟩⟩⟩ h12

theorem K83 {Θ : Th} {d : Nat} {σ : Mem} {Q : Po} {o : Nat} {r1 : Nat} {x2 : Int32} (h : G Θ (d + 1) 83 0 [some (.ref o), some (.ref r1), some (.int x2), none, none, none, none] [] σ Q) : Cm Θ (d + 1) 83 [.ref o, .ref r1, .int x2] σ Q :=
  C_of_G okM83 (Nat.le_of_ble_eq_true rfl) rfl h

-- 84: LikeYears$Order.gapsTogether(LLikeYears$Book;)I
set_option maxRecDepth 100000 in
set_option maxHeartbeats 4000000 in
theorem B84_0 {Θ : Th} {d : Nat} {σ : Mem} {Q : Po} {o : Nat} {r1 : Nat} (ho : (shq o).1 = 8) (hp1 : (shq r1).1 = 1)
    (h : G Θ (d + 1) 84 4 [some (.ref o), some (.ref r1), some (.int 0), some (.int 0)] [] σ Q) :
    G Θ (d + 1) 84 0 [some (.ref o), some (.ref r1), none, none] [] σ Q := by
  refine r_iconst (v := 0) ok84 0 rfl rfl rfl ?_
  refine r_istore_n ok84 1 rfl rfl ?_
  refine r_iconst (v := 0) ok84 2 rfl rfl rfl ?_
  refine r_istore_n ok84 3 rfl rfl ?_
  exact h

set_option maxRecDepth 100000 in
set_option maxHeartbeats 4000000 in
theorem B84_4 {Θ : Th} {d : Nat} {σ : Mem} {Q : Po} {o : Nat} {r1 : Nat} {x2 : Int32} {x3 : Int32} (ho : (shq o).1 = 8) (hp1 : (shq r1).1 = 1)
    (h : (((σ.1 r1 4) ≤ x3 → Q (some (.int (x2 / 2))) σ) ∧ (¬ (σ.1 r1 4) ≤ x3 → Ci Θ d 82 [.ref o, .ref r1, .int x3] σ (fun v2 σ2 => G Θ (d + 1) 84 4 [some (.ref o), some (.ref r1), some (.int (x2 + v2)), some (.int (x3 + 1))] [] σ2 Q)))) :
    G Θ (d + 1) 84 4 [some (.ref o), some (.ref r1), some (.int x2), some (.int x3)] [] σ Q := by
  refine r_iload_n ok84 4 rfl rfl rfl ?_
  refine r_aload_n ok84 5 rfl rfl rfl ?_
  refine r_getI ok84 6 rfl rfl hp1 rfl ?_
  refine r_icmp_ge ok84 7 rfl rfl (fun c1 => ?_) (fun c1 => ?_)
  · have h1 := h.1 c1
    refine r_iload_n ok84 17 rfl rfl rfl ?_
    refine r_iconst (v := 2) ok84 18 rfl rfl rfl ?_
    refine r_idiv ok84 19 rfl rfl (by decide) ?_
    exact r_iret ok84 20 rfl rfl rfl h1
  · have h1 := h.2 c1
    refine r_iload_n ok84 8 rfl rfl rfl ?_
    refine r_aload_n ok84 9 rfl rfl rfl ?_
    refine r_aload_n ok84 10 rfl rfl rfl ?_
    refine r_iload_n ok84 11 rfl rfl rfl ?_
    refine r_invVi (as := [.ref r1, .int x3]) (S := [.int x2]) ok84 12 rfl rfl mf82 ho rfl (Nat.le_of_ble_eq_true rfl) rfl h1 (fun v2 σ2 h2 => ?_)
    refine r_iadd ok84 13 rfl rfl ?_
    refine r_istore_n ok84 14 rfl rfl ?_
    refine r_iinc (v := x3 + 1) ok84 15 rfl rfl rfl rfl ?_
    refine r_goto ok84 16 rfl rfl ?_
    exact h2

theorem K84 {Θ : Th} {d : Nat} {σ : Mem} {Q : Po} {o : Nat} {r1 : Nat} (h : G Θ (d + 1) 84 0 [some (.ref o), some (.ref r1), none, none] [] σ Q) : Cm Θ (d + 1) 84 [.ref o, .ref r1] σ Q :=
  C_of_G okM84 (Nat.le_of_ble_eq_true rfl) rfl h

-- 85: LikeYears$Order.greatestGap(LLikeYears$Book;)I
set_option maxRecDepth 100000 in
set_option maxHeartbeats 4000000 in
theorem B85_0 {Θ : Th} {d : Nat} {σ : Mem} {Q : Po} {o : Nat} {r1 : Nat} (ho : (shq o).1 = 8) (hp1 : (shq r1).1 = 1)
    (h : G Θ (d + 1) 85 4 [some (.ref o), some (.ref r1), some (.int 0), some (.int 0), none] [] σ Q) :
    G Θ (d + 1) 85 0 [some (.ref o), some (.ref r1), none, none, none] [] σ Q := by
  refine r_iconst (v := 0) ok85 0 rfl rfl rfl ?_
  refine r_istore_n ok85 1 rfl rfl ?_
  refine r_iconst (v := 0) ok85 2 rfl rfl rfl ?_
  refine r_istore_n ok85 3 rfl rfl ?_
  exact h

set_option maxRecDepth 100000 in
set_option maxHeartbeats 4000000 in
theorem B85_4 {Θ : Th} {d : Nat} {σ : Mem} {Q : Po} {o : Nat} {r1 : Nat} {x2 : Int32} {x3 : Int32} (ho : (shq o).1 = 8) (hp1 : (shq r1).1 = 1)
    (h : (((σ.1 r1 4) ≤ x3 → Q (some (.int x2)) σ) ∧ (¬ (σ.1 r1 4) ≤ x3 → G Θ (d + 1) 85 15 [some (.ref o), some (.ref r1), some (.int x2), some (.int x3), some (.int 0)] [] σ Q))) :
    G Θ (d + 1) 85 4 [some (.ref o), some (.ref r1), some (.int x2), some (.int x3), none] [] σ Q := by
  refine r_iload_n ok85 4 rfl rfl rfl ?_
  refine r_aload_n ok85 5 rfl rfl rfl ?_
  refine r_getI ok85 6 rfl rfl hp1 rfl ?_
  refine r_icmp_ge ok85 7 rfl rfl (fun c1 => ?_) (fun c1 => ?_)
  · have h1 := h.1 c1
    refine r_iload_n ok85 25 rfl rfl rfl ?_
    exact r_iret ok85 26 rfl rfl rfl h1
  · have h1 := h.2 c1
    refine r_iconst (v := 0) ok85 8 rfl rfl rfl ?_
    refine r_istore ok85 9 rfl rfl ?_
    exact h1

set_option maxRecDepth 100000 in
set_option maxHeartbeats 4000000 in
theorem B85_15 {Θ : Th} {d : Nat} {σ : Mem} {Q : Po} {o : Nat} {r1 : Nat} {x2 : Int32} {x3 : Int32} {x4 : Int32} (ho : (shq o).1 = 8) (hp1 : (shq r1).1 = 1)
    (h : ((x3 ≤ x4 → G Θ (d + 1) 85 4 [some (.ref o), some (.ref r1), some (.int x2), some (.int (x3 + 1)), none] [] σ Q) ∧ (¬ x3 ≤ x4 → Ci Θ d 80 [.ref o, .ref r1, .int x3, .int x4] σ (fun v2 σ2 => G Θ (d + 1) 85 15 [some (.ref o), some (.ref r1), some (.int (if x2 < v2 then v2 else x2)), some (.int x3), some (.int (x4 + 1))] [] σ2 Q)))) :
    G Θ (d + 1) 85 15 [some (.ref o), some (.ref r1), some (.int x2), some (.int x3), some (.int x4)] [] σ Q := by
  refine r_iload ok85 10 rfl rfl rfl ?_
  refine r_iload_n ok85 11 rfl rfl rfl ?_
  refine r_icmp_ge ok85 12 rfl rfl (fun c1 => ?_) (fun c1 => ?_)
  · have h1 := h.1 c1
    refine r_iinc (v := x3 + 1) ok85 23 rfl rfl rfl rfl ?_
    refine r_goto ok85 24 rfl rfl ?_
    exact G.weak (L' := [some (.ref o), some (.ref r1), some (.int x2), some (.int (x3 + 1)), none]) ⟨rfl, ⟨rfl, ⟨rfl, ⟨rfl, trivial⟩⟩⟩⟩ h1
  · have h1 := h.2 c1
    refine r_iload_n ok85 13 rfl rfl rfl ?_
    refine r_aload_n ok85 14 rfl rfl rfl ?_
    refine r_aload_n ok85 15 rfl rfl rfl ?_
    refine r_iload_n ok85 16 rfl rfl rfl ?_
    refine r_iload ok85 17 rfl rfl rfl ?_
    refine r_invVi (as := [.ref r1, .int x3, .int x4]) (S := [.int x2]) ok85 18 rfl rfl mf80 ho rfl (Nat.le_of_ble_eq_true rfl) rfl h1 (fun v2 σ2 h2 => ?_)
    refine r_mmax ok85 19 rfl rfl rfl (Nat.le_of_ble_eq_true rfl) w_max (Nat.le_of_ble_eq_true rfl) ?_
    refine r_istore_n ok85 20 rfl rfl ?_
    refine r_iinc (v := x4 + 1) ok85 21 rfl rfl rfl rfl ?_
    refine r_goto ok85 22 rfl rfl ?_
    exact h2

theorem K85 {Θ : Th} {d : Nat} {σ : Mem} {Q : Po} {o : Nat} {r1 : Nat} (h : G Θ (d + 1) 85 0 [some (.ref o), some (.ref r1), none, none, none] [] σ Q) : Cm Θ (d + 1) 85 [.ref o, .ref r1] σ Q :=
  C_of_G okM85 (Nat.le_of_ble_eq_true rfl) rfl h

-- 86: LikeYears$Order.oddestOf(LLikeYears$Book;)I
set_option maxRecDepth 100000 in
set_option maxHeartbeats 4000000 in
theorem B86_0 {Θ : Th} {d : Nat} {σ : Mem} {Q : Po} {o : Nat} {r1 : Nat} (ho : (shq o).1 = 8) (hp1 : (shq r1).1 = 1)
    (h : G Θ (d + 1) 86 10 [some (.ref o), some (.ref r1), some (.int (-1)), some (.int 0), some (.int 0), some (.int 0), none, none] [] σ Q) :
    G Θ (d + 1) 86 0 [some (.ref o), some (.ref r1), none, none, none, none, none, none] [] σ Q := by
  refine r_iconst (v := (-1)) ok86 0 rfl rfl rfl ?_
  refine r_istore_n ok86 1 rfl rfl ?_
  refine r_iconst (v := 0) ok86 2 rfl rfl rfl ?_
  refine r_istore_n ok86 3 rfl rfl ?_
  refine r_iconst (v := 0) ok86 4 rfl rfl rfl ?_
  refine r_istore ok86 5 rfl rfl ?_
  refine r_iconst (v := 0) ok86 6 rfl rfl rfl ?_
  refine r_istore ok86 7 rfl rfl ?_
  exact h

set_option maxRecDepth 100000 in
set_option maxHeartbeats 4000000 in
theorem B86_10 {Θ : Th} {d : Nat} {σ : Mem} {Q : Po} {o : Nat} {r1 : Nat} {x2 : Int32} {x3 : Int32} {x4 : Int32} {x5 : Int32} (ho : (shq o).1 = 8) (hp1 : (shq r1).1 = 1)
    (h : (((σ.1 r1 4) ≤ x5 → Q (some (.int x2)) σ) ∧ (¬ (σ.1 r1 4) ≤ x5 → Ci Θ d 81 [.ref o, .ref r1, .int x5] σ (fun v2 σ2 => Ci Θ d 286 [.int v2] σ2 (fun v3 σ3 => Ci Θ d 82 [.ref o, .ref r1, .int x5] σ3 (fun v4 σ4 => ((x3 < v3 → G Θ (d + 1) 86 10 [some (.ref o), some (.ref r1), some (.int x5), some (.int v3), some (.int v4), some (.int (x5 + 1)), none, none] [] σ4 Q) ∧ (¬ x3 < v3 → ((¬ v3 = x3 → G Θ (d + 1) 86 10 [some (.ref o), some (.ref r1), some (.int x2), some (.int x3), some (.int x4), some (.int (x5 + 1)), none, none] [] σ4 Q) ∧ (v3 = x3 → ((v4 ≤ x4 → G Θ (d + 1) 86 10 [some (.ref o), some (.ref r1), some (.int x2), some (.int x3), some (.int x4), some (.int (x5 + 1)), none, none] [] σ4 Q) ∧ (¬ v4 ≤ x4 → G Θ (d + 1) 86 10 [some (.ref o), some (.ref r1), some (.int x5), some (.int v3), some (.int v4), some (.int (x5 + 1)), none, none] [] σ4 Q)))))))))))) :
    G Θ (d + 1) 86 10 [some (.ref o), some (.ref r1), some (.int x2), some (.int x3), some (.int x4), some (.int x5), none, none] [] σ Q := by
  refine r_iload ok86 8 rfl rfl rfl ?_
  refine r_aload_n ok86 9 rfl rfl rfl ?_
  refine r_getI ok86 10 rfl rfl hp1 rfl ?_
  refine r_icmp_ge ok86 11 rfl rfl (fun c1 => ?_) (fun c1 => ?_)
  · have h1 := h.1 c1
    refine r_iload_n ok86 40 rfl rfl rfl ?_
    exact r_iret ok86 41 rfl rfl rfl h1
  · have h1 := h.2 c1
    refine r_aload_n ok86 12 rfl rfl rfl ?_
    refine r_aload_n ok86 13 rfl rfl rfl ?_
    refine r_iload ok86 14 rfl rfl rfl ?_
    refine r_invVi (as := [.ref r1, .int x5]) (S := []) ok86 15 rfl rfl mf81 ho rfl (Nat.le_of_ble_eq_true rfl) rfl h1 (fun v2 σ2 h2 => ?_)
    refine r_invSi (as := [.int v2]) (S := []) ok86 16 rfl rfl mf286 rfl (Nat.le_of_ble_eq_true rfl) rfl h2 (fun v3 σ3 h3 => ?_)
    refine r_istore ok86 17 rfl rfl ?_
    refine r_aload_n ok86 18 rfl rfl rfl ?_
    refine r_aload_n ok86 19 rfl rfl rfl ?_
    refine r_iload ok86 20 rfl rfl rfl ?_
    refine r_invVi (as := [.ref r1, .int x5]) (S := []) ok86 21 rfl rfl mf82 ho rfl (Nat.le_of_ble_eq_true rfl) rfl h3 (fun v4 σ4 h4 => ?_)
    refine r_istore ok86 22 rfl rfl ?_
    refine r_iload ok86 23 rfl rfl rfl ?_
    refine r_iload_n ok86 24 rfl rfl rfl ?_
    refine r_icmp_gt ok86 25 rfl rfl (fun c5 => ?_) (fun c5 => ?_)
    · have h5 := h4.1 c5
      refine r_iload ok86 32 rfl rfl rfl ?_
      refine r_istore_n ok86 33 rfl rfl ?_
      refine r_iload ok86 34 rfl rfl rfl ?_
      refine r_istore_n ok86 35 rfl rfl ?_
      refine r_iload ok86 36 rfl rfl rfl ?_
      refine r_istore ok86 37 rfl rfl ?_
      refine r_iinc (v := x5 + 1) ok86 38 rfl rfl rfl rfl ?_
      refine r_goto ok86 39 rfl rfl ?_
      exact G.weak (L' := [some (.ref o), some (.ref r1), some (.int x5), some (.int v3), some (.int v4), some (.int (x5 + 1)), none, none]) ⟨rfl, ⟨rfl, ⟨rfl, ⟨rfl, ⟨rfl, ⟨rfl, trivial⟩⟩⟩⟩⟩⟩ h5
    · have h5 := h4.2 c5
      refine r_iload ok86 26 rfl rfl rfl ?_
      refine r_iload_n ok86 27 rfl rfl rfl ?_
      refine r_icmp_ne ok86 28 rfl rfl (fun c6 => ?_) (fun c6 => ?_)
      · have h6 := h5.1 c6
        refine r_iinc (v := x5 + 1) ok86 38 rfl rfl rfl rfl ?_
        refine r_goto ok86 39 rfl rfl ?_
        exact G.weak (L' := [some (.ref o), some (.ref r1), some (.int x2), some (.int x3), some (.int x4), some (.int (x5 + 1)), none, none]) ⟨rfl, ⟨rfl, ⟨rfl, ⟨rfl, ⟨rfl, ⟨rfl, trivial⟩⟩⟩⟩⟩⟩ h6
      · have h6 := h5.2 c6
        refine r_iload ok86 29 rfl rfl rfl ?_
        refine r_iload ok86 30 rfl rfl rfl ?_
        refine r_icmp_le ok86 31 rfl rfl (fun c7 => ?_) (fun c7 => ?_)
        · have h7 := h6.1 c7
          refine r_iinc (v := x5 + 1) ok86 38 rfl rfl rfl rfl ?_
          refine r_goto ok86 39 rfl rfl ?_
          exact G.weak (L' := [some (.ref o), some (.ref r1), some (.int x2), some (.int x3), some (.int x4), some (.int (x5 + 1)), none, none]) ⟨rfl, ⟨rfl, ⟨rfl, ⟨rfl, ⟨rfl, ⟨rfl, trivial⟩⟩⟩⟩⟩⟩ h7
        · have h7 := h6.2 c7
          refine r_iload ok86 32 rfl rfl rfl ?_
          refine r_istore_n ok86 33 rfl rfl ?_
          refine r_iload ok86 34 rfl rfl rfl ?_
          refine r_istore_n ok86 35 rfl rfl ?_
          refine r_iload ok86 36 rfl rfl rfl ?_
          refine r_istore ok86 37 rfl rfl ?_
          refine r_iinc (v := x5 + 1) ok86 38 rfl rfl rfl rfl ?_
          refine r_goto ok86 39 rfl rfl ?_
          exact G.weak (L' := [some (.ref o), some (.ref r1), some (.int x5), some (.int v3), some (.int v4), some (.int (x5 + 1)), none, none]) ⟨rfl, ⟨rfl, ⟨rfl, ⟨rfl, ⟨rfl, ⟨rfl, trivial⟩⟩⟩⟩⟩⟩ h7

theorem K86 {Θ : Th} {d : Nat} {σ : Mem} {Q : Po} {o : Nat} {r1 : Nat} (h : G Θ (d + 1) 86 0 [some (.ref o), some (.ref r1), none, none, none, none, none, none] [] σ Q) : Cm Θ (d + 1) 86 [.ref o, .ref r1] σ Q :=
  C_of_G okM86 (Nat.le_of_ble_eq_true rfl) rfl h

-- 87: LikeYears$Order.besideOf(LLikeYears$Book;I)I
set_option maxRecDepth 100000 in
set_option maxHeartbeats 4000000 in
theorem B87_0 {Θ : Th} {d : Nat} {σ : Mem} {Q : Po} {o : Nat} {r1 : Nat} {x2 : Int32} (ho : (shq o).1 = 8) (hp1 : (shq r1).1 = 1)
    (h : G Θ (d + 1) 87 8 [some (.ref o), some (.ref r1), some (.int x2), some (.int (-1)), some (.int 0), some (.int 0)] [] σ Q) :
    G Θ (d + 1) 87 0 [some (.ref o), some (.ref r1), some (.int x2), none, none, none] [] σ Q := by
  refine r_iconst (v := (-1)) ok87 0 rfl rfl rfl ?_
  refine r_istore_n ok87 1 rfl rfl ?_
  refine r_iconst (v := 0) ok87 2 rfl rfl rfl ?_
  refine r_istore ok87 3 rfl rfl ?_
  refine r_iconst (v := 0) ok87 4 rfl rfl rfl ?_
  refine r_istore ok87 5 rfl rfl ?_
  exact h

set_option maxRecDepth 100000 in
set_option maxHeartbeats 4000000 in
theorem B87_8 {Θ : Th} {d : Nat} {σ : Mem} {Q : Po} {o : Nat} {r1 : Nat} {x2 : Int32} {x3 : Int32} {x4 : Int32} {x5 : Int32} (ho : (shq o).1 = 8) (hp1 : (shq r1).1 = 1)
    (h : (((σ.1 r1 4) ≤ x5 → Q (some (.int x3)) σ) ∧ (¬ (σ.1 r1 4) ≤ x5 → Ci Θ d 80 [.ref o, .ref r1, .int x2, .int x5] σ (fun v2 σ2 => ((v2 ≤ x4 → G Θ (d + 1) 87 8 [some (.ref o), some (.ref r1), some (.int x2), some (.int x3), some (.int x4), some (.int (x5 + 1))] [] σ2 Q) ∧ (¬ v2 ≤ x4 → Ci Θ d 80 [.ref o, .ref r1, .int x2, .int x5] σ2 (fun v4 σ4 => G Θ (d + 1) 87 8 [some (.ref o), some (.ref r1), some (.int x2), some (.int x5), some (.int v4), some (.int (x5 + 1))] [] σ4 Q))))))) :
    G Θ (d + 1) 87 8 [some (.ref o), some (.ref r1), some (.int x2), some (.int x3), some (.int x4), some (.int x5)] [] σ Q := by
  refine r_iload ok87 6 rfl rfl rfl ?_
  refine r_aload_n ok87 7 rfl rfl rfl ?_
  refine r_getI ok87 8 rfl rfl hp1 rfl ?_
  refine r_icmp_ge ok87 9 rfl rfl (fun c1 => ?_) (fun c1 => ?_)
  · have h1 := h.1 c1
    refine r_iload_n ok87 27 rfl rfl rfl ?_
    exact r_iret ok87 28 rfl rfl rfl h1
  · have h1 := h.2 c1
    refine r_aload_n ok87 10 rfl rfl rfl ?_
    refine r_aload_n ok87 11 rfl rfl rfl ?_
    refine r_iload_n ok87 12 rfl rfl rfl ?_
    refine r_iload ok87 13 rfl rfl rfl ?_
    refine r_invVi (as := [.ref r1, .int x2, .int x5]) (S := []) ok87 14 rfl rfl mf80 ho rfl (Nat.le_of_ble_eq_true rfl) rfl h1 (fun v2 σ2 h2 => ?_)
    refine r_iload ok87 15 rfl rfl rfl ?_
    refine r_icmp_le ok87 16 rfl rfl (fun c3 => ?_) (fun c3 => ?_)
    · have h3 := h2.1 c3
      refine r_iinc (v := x5 + 1) ok87 25 rfl rfl rfl rfl ?_
      refine r_goto ok87 26 rfl rfl ?_
      exact h3
    · have h3 := h2.2 c3
      refine r_aload_n ok87 17 rfl rfl rfl ?_
      refine r_aload_n ok87 18 rfl rfl rfl ?_
      refine r_iload_n ok87 19 rfl rfl rfl ?_
      refine r_iload ok87 20 rfl rfl rfl ?_
      refine r_invVi (as := [.ref r1, .int x2, .int x5]) (S := []) ok87 21 rfl rfl mf80 ho rfl (Nat.le_of_ble_eq_true rfl) rfl h3 (fun v4 σ4 h4 => ?_)
      refine r_istore ok87 22 rfl rfl ?_
      refine r_iload ok87 23 rfl rfl rfl ?_
      refine r_istore_n ok87 24 rfl rfl ?_
      refine r_iinc (v := x5 + 1) ok87 25 rfl rfl rfl rfl ?_
      refine r_goto ok87 26 rfl rfl ?_
      exact h4

theorem K87 {Θ : Th} {d : Nat} {σ : Mem} {Q : Po} {o : Nat} {r1 : Nat} {x2 : Int32} (h : G Θ (d + 1) 87 0 [some (.ref o), some (.ref r1), some (.int x2), none, none, none] [] σ Q) : Cm Θ (d + 1) 87 [.ref o, .ref r1, .int x2] σ Q :=
  C_of_G okM87 (Nat.le_of_ble_eq_true rfl) rfl h

-- 88: LikeYears$Order.twiceMiddle(LLikeYears$Book;I)I
set_option maxRecDepth 100000 in
set_option maxHeartbeats 4000000 in
theorem B88_0 {Θ : Th} {d : Nat} {σ : Mem} {Q : Po} {o : Nat} {r1 : Nat} {x2 : Int32} (ho : (shq o).1 = 8) (hp1 : (shq r1).1 = 1)
    (h : (vp_in x2 16 ∧ (vp_in x2 16 ∧ G Θ (d + 1) 88 18 [some (.ref o), some (.ref r1), some (.int x2), some (.int (σ.1 (r1 + 5) x2.toNatClampNeg)), some (.int (σ.1 (r1 + 5) x2.toNatClampNeg)), some (.int 0)] [] σ Q))) :
    G Θ (d + 1) 88 0 [some (.ref o), some (.ref r1), some (.int x2), none, none, none] [] σ Q := by
  refine r_aload_n ok88 0 rfl rfl rfl ?_
  refine r_getF ok88 1 rfl rfl hp1 rfl ?_
  refine r_iload_n ok88 2 rfl rfl rfl ?_
  obtain ⟨c1, h1⟩ := h
  refine r_iald ok88 3 rfl rfl (rel_shp hp1 (i := 8) rfl) c1 ?_
  refine r_istore_n ok88 4 rfl rfl ?_
  refine r_aload_n ok88 5 rfl rfl rfl ?_
  refine r_getF ok88 6 rfl rfl hp1 rfl ?_
  refine r_iload_n ok88 7 rfl rfl rfl ?_
  obtain ⟨c2, h2⟩ := h1
  refine r_iald ok88 8 rfl rfl (rel_shp hp1 (i := 8) rfl) c2 ?_
  refine r_istore ok88 9 rfl rfl ?_
  refine r_iconst (v := 0) ok88 10 rfl rfl rfl ?_
  refine r_istore ok88 11 rfl rfl ?_
  exact h2

set_option maxRecDepth 100000 in
set_option maxHeartbeats 4000000 in
theorem B88_18 {Θ : Th} {d : Nat} {σ : Mem} {Q : Po} {o : Nat} {r1 : Nat} {x2 : Int32} {x3 : Int32} {x4 : Int32} {x5 : Int32} (ho : (shq o).1 = 8) (hp1 : (shq r1).1 = 1)
    (h : (((σ.1 r1 4) ≤ x5 → Q (some (.int (x3 + x4))) σ) ∧ (¬ (σ.1 r1 4) ≤ x5 → Ci Θ d 79 [.ref o, .int x2, .int x5] σ (fun v2 σ2 => ((v2 = 0 → Ci Θ d 79 [.ref o, .int x5, .int x2] σ2 (fun v4 σ4 => ((v4 = 0 → G Θ (d + 1) 88 18 [some (.ref o), some (.ref r1), some (.int x2), some (.int x3), some (.int x4), some (.int (x5 + 1))] [] σ4 Q) ∧ (¬ v4 = 0 → (vp_in x5 16 ∧ G Θ (d + 1) 88 18 [some (.ref o), some (.ref r1), some (.int x2), some (.int x3), some (.int (if (σ4.1 (r1 + 5) x5.toNatClampNeg) < x4 then σ4.1 (r1 + 5) x5.toNatClampNeg else x4)), some (.int (x5 + 1))] [] σ4 Q))))) ∧ (¬ v2 = 0 → (vp_in x5 16 ∧ Ci Θ d 79 [.ref o, .int x5, .int x2] σ2 (fun v8 σ8 => ((v8 = 0 → G Θ (d + 1) 88 18 [some (.ref o), some (.ref r1), some (.int x2), some (.int (if x3 < (σ2.1 (r1 + 5) x5.toNatClampNeg) then σ2.1 (r1 + 5) x5.toNatClampNeg else x3)), some (.int x4), some (.int (x5 + 1))] [] σ8 Q) ∧ (¬ v8 = 0 → (vp_in x5 16 ∧ G Θ (d + 1) 88 18 [some (.ref o), some (.ref r1), some (.int x2), some (.int (if x3 < (σ2.1 (r1 + 5) x5.toNatClampNeg) then σ2.1 (r1 + 5) x5.toNatClampNeg else x3)), some (.int (if (σ8.1 (r1 + 5) x5.toNatClampNeg) < x4 then σ8.1 (r1 + 5) x5.toNatClampNeg else x4)), some (.int (x5 + 1))] [] σ8 Q))))))))))) :
    G Θ (d + 1) 88 18 [some (.ref o), some (.ref r1), some (.int x2), some (.int x3), some (.int x4), some (.int x5)] [] σ Q := by
  refine r_iload ok88 12 rfl rfl rfl ?_
  refine r_aload_n ok88 13 rfl rfl rfl ?_
  refine r_getI ok88 14 rfl rfl hp1 rfl ?_
  refine r_icmp_ge ok88 15 rfl rfl (fun c1 => ?_) (fun c1 => ?_)
  · have h1 := h.1 c1
    refine r_iload_n ok88 42 rfl rfl rfl ?_
    refine r_iload ok88 43 rfl rfl rfl ?_
    refine r_iadd ok88 44 rfl rfl ?_
    exact r_iret ok88 45 rfl rfl rfl h1
  · have h1 := h.2 c1
    refine r_aload_n ok88 16 rfl rfl rfl ?_
    refine r_iload_n ok88 17 rfl rfl rfl ?_
    refine r_iload ok88 18 rfl rfl rfl ?_
    refine r_invVi (as := [.int x2, .int x5]) (S := []) ok88 19 rfl rfl mf79 ho rfl (Nat.le_of_ble_eq_true rfl) rfl h1 (fun v2 σ2 h2 => ?_)
    refine r_if_eq ok88 20 rfl rfl (fun c3 => ?_) (fun c3 => ?_)
    · have h3 := h2.1 c3
      refine r_aload_n ok88 28 rfl rfl rfl ?_
      refine r_iload ok88 29 rfl rfl rfl ?_
      refine r_iload_n ok88 30 rfl rfl rfl ?_
      refine r_invVi (as := [.int x5, .int x2]) (S := []) ok88 31 rfl rfl mf79 ho rfl (Nat.le_of_ble_eq_true rfl) rfl h3 (fun v4 σ4 h4 => ?_)
      refine r_if_eq ok88 32 rfl rfl (fun c5 => ?_) (fun c5 => ?_)
      · have h5 := h4.1 c5
        refine r_iinc (v := x5 + 1) ok88 40 rfl rfl rfl rfl ?_
        refine r_goto ok88 41 rfl rfl ?_
        exact h5
      · have h5 := h4.2 c5
        refine r_iload ok88 33 rfl rfl rfl ?_
        refine r_aload_n ok88 34 rfl rfl rfl ?_
        refine r_getF ok88 35 rfl rfl hp1 rfl ?_
        refine r_iload ok88 36 rfl rfl rfl ?_
        obtain ⟨c6, h6⟩ := h5
        refine r_iald ok88 37 rfl rfl (rel_shp hp1 (i := 8) rfl) c6 ?_
        refine r_mmin ok88 38 rfl rfl rfl (Nat.le_of_ble_eq_true rfl) w_min (Nat.le_of_ble_eq_true rfl) ?_
        refine r_istore ok88 39 rfl rfl ?_
        refine r_iinc (v := x5 + 1) ok88 40 rfl rfl rfl rfl ?_
        refine r_goto ok88 41 rfl rfl ?_
        exact h6
    · have h3 := h2.2 c3
      refine r_iload_n ok88 21 rfl rfl rfl ?_
      refine r_aload_n ok88 22 rfl rfl rfl ?_
      refine r_getF ok88 23 rfl rfl hp1 rfl ?_
      refine r_iload ok88 24 rfl rfl rfl ?_
      obtain ⟨c7, h7⟩ := h3
      refine r_iald ok88 25 rfl rfl (rel_shp hp1 (i := 8) rfl) c7 ?_
      refine r_mmax ok88 26 rfl rfl rfl (Nat.le_of_ble_eq_true rfl) w_max (Nat.le_of_ble_eq_true rfl) ?_
      refine r_istore_n ok88 27 rfl rfl ?_
      refine r_aload_n ok88 28 rfl rfl rfl ?_
      refine r_iload ok88 29 rfl rfl rfl ?_
      refine r_iload_n ok88 30 rfl rfl rfl ?_
      refine r_invVi (as := [.int x5, .int x2]) (S := []) ok88 31 rfl rfl mf79 ho rfl (Nat.le_of_ble_eq_true rfl) rfl h7 (fun v8 σ8 h8 => ?_)
      refine r_if_eq ok88 32 rfl rfl (fun c9 => ?_) (fun c9 => ?_)
      · have h9 := h8.1 c9
        refine r_iinc (v := x5 + 1) ok88 40 rfl rfl rfl rfl ?_
        refine r_goto ok88 41 rfl rfl ?_
        exact h9
      · have h9 := h8.2 c9
        refine r_iload ok88 33 rfl rfl rfl ?_
        refine r_aload_n ok88 34 rfl rfl rfl ?_
        refine r_getF ok88 35 rfl rfl hp1 rfl ?_
        refine r_iload ok88 36 rfl rfl rfl ?_
        obtain ⟨c10, h10⟩ := h9
        refine r_iald ok88 37 rfl rfl (rel_shp hp1 (i := 8) rfl) c10 ?_
        refine r_mmin ok88 38 rfl rfl rfl (Nat.le_of_ble_eq_true rfl) w_min (Nat.le_of_ble_eq_true rfl) ?_
        refine r_istore ok88 39 rfl rfl ?_
        refine r_iinc (v := x5 + 1) ok88 40 rfl rfl rfl rfl ?_
        refine r_goto ok88 41 rfl rfl ?_
        exact h10

theorem K88 {Θ : Th} {d : Nat} {σ : Mem} {Q : Po} {o : Nat} {r1 : Nat} {x2 : Int32} (h : G Θ (d + 1) 88 0 [some (.ref o), some (.ref r1), some (.int x2), none, none, none] [] σ Q) : Cm Θ (d + 1) 88 [.ref o, .ref r1, .int x2] σ Q :=
  C_of_G okM88 (Nat.le_of_ble_eq_true rfl) rfl h

-- 89: LikeYears$Order.twiceGreatest(LLikeYears$Book;)I
set_option maxRecDepth 100000 in
set_option maxHeartbeats 4000000 in
theorem B89_0 {Θ : Th} {d : Nat} {σ : Mem} {Q : Po} {o : Nat} {r1 : Nat} (ho : (shq o).1 = 8) (hp1 : (shq r1).1 = 1)
    (h : G Θ (d + 1) 89 4 [some (.ref o), some (.ref r1), some (.int 0), some (.int 0)] [] σ Q) :
    G Θ (d + 1) 89 0 [some (.ref o), some (.ref r1), none, none] [] σ Q := by
  refine r_iconst (v := 0) ok89 0 rfl rfl rfl ?_
  refine r_istore_n ok89 1 rfl rfl ?_
  refine r_iconst (v := 0) ok89 2 rfl rfl rfl ?_
  refine r_istore_n ok89 3 rfl rfl ?_
  exact h

set_option maxRecDepth 100000 in
set_option maxHeartbeats 4000000 in
theorem B89_4 {Θ : Th} {d : Nat} {σ : Mem} {Q : Po} {o : Nat} {r1 : Nat} {x2 : Int32} {x3 : Int32} (ho : (shq o).1 = 8) (hp1 : (shq r1).1 = 1)
    (h : (((σ.1 r1 4) ≤ x3 → Q (some (.int x2)) σ) ∧ (¬ (σ.1 r1 4) ≤ x3 → Ci Θ d 88 [.ref o, .ref r1, .int x3] σ (fun v2 σ2 => (vp_in x3 16 ∧ G Θ (d + 1) 89 4 [some (.ref o), some (.ref r1), some (.int (if x2 < (if 0 ≤ (v2 - (2 * (σ2.1 (r1 + 5) x3.toNatClampNeg))) then v2 - (2 * (σ2.1 (r1 + 5) x3.toNatClampNeg)) else 0 - (v2 - (2 * (σ2.1 (r1 + 5) x3.toNatClampNeg)))) then if 0 ≤ (v2 - (2 * (σ2.1 (r1 + 5) x3.toNatClampNeg))) then v2 - (2 * (σ2.1 (r1 + 5) x3.toNatClampNeg)) else 0 - (v2 - (2 * (σ2.1 (r1 + 5) x3.toNatClampNeg))) else x2)), some (.int (x3 + 1))] [] σ2 Q))))) :
    G Θ (d + 1) 89 4 [some (.ref o), some (.ref r1), some (.int x2), some (.int x3)] [] σ Q := by
  refine r_iload_n ok89 4 rfl rfl rfl ?_
  refine r_aload_n ok89 5 rfl rfl rfl ?_
  refine r_getI ok89 6 rfl rfl hp1 rfl ?_
  refine r_icmp_ge ok89 7 rfl rfl (fun c1 => ?_) (fun c1 => ?_)
  · have h1 := h.1 c1
    refine r_iload_n ok89 25 rfl rfl rfl ?_
    exact r_iret ok89 26 rfl rfl rfl h1
  · have h1 := h.2 c1
    refine r_iload_n ok89 8 rfl rfl rfl ?_
    refine r_aload_n ok89 9 rfl rfl rfl ?_
    refine r_aload_n ok89 10 rfl rfl rfl ?_
    refine r_iload_n ok89 11 rfl rfl rfl ?_
    refine r_invVi (as := [.ref r1, .int x3]) (S := [.int x2]) ok89 12 rfl rfl mf88 ho rfl (Nat.le_of_ble_eq_true rfl) rfl h1 (fun v2 σ2 h2 => ?_)
    refine r_iconst (v := 2) ok89 13 rfl rfl rfl ?_
    refine r_aload_n ok89 14 rfl rfl rfl ?_
    refine r_getF ok89 15 rfl rfl hp1 rfl ?_
    refine r_iload_n ok89 16 rfl rfl rfl ?_
    obtain ⟨c3, h3⟩ := h2
    refine r_iald ok89 17 rfl rfl (rel_shp hp1 (i := 8) rfl) c3 ?_
    refine r_imul ok89 18 rfl rfl ?_
    refine r_isub ok89 19 rfl rfl ?_
    refine r_mabs ok89 20 rfl rfl rfl (Nat.le_of_ble_eq_true rfl) w_abs (Nat.le_of_ble_eq_true rfl) ?_
    refine r_mmax ok89 21 rfl rfl rfl (Nat.le_of_ble_eq_true rfl) w_max (Nat.le_of_ble_eq_true rfl) ?_
    refine r_istore_n ok89 22 rfl rfl ?_
    refine r_iinc (v := x3 + 1) ok89 23 rfl rfl rfl rfl ?_
    refine r_goto ok89 24 rfl rfl ?_
    exact h3

theorem K89 {Θ : Th} {d : Nat} {σ : Mem} {Q : Po} {o : Nat} {r1 : Nat} (h : G Θ (d + 1) 89 0 [some (.ref o), some (.ref r1), none, none] [] σ Q) : Cm Θ (d + 1) 89 [.ref o, .ref r1] σ Q :=
  C_of_G okM89 (Nat.le_of_ble_eq_true rfl) rfl h

-- 90: LikeYears$Order.underNew(LLikeYears$Book;)I
set_option maxRecDepth 100000 in
set_option maxHeartbeats 4000000 in
theorem B90_0 {Θ : Th} {d : Nat} {σ : Mem} {Q : Po} {o : Nat} {r1 : Nat} (ho : (shq o).1 = 8) (hp1 : (shq r1).1 = 1)
    (h : G Θ (d + 1) 90 4 [some (.ref o), some (.ref r1), some (.int 0), some (.int 0)] [] σ Q) :
    G Θ (d + 1) 90 0 [some (.ref o), some (.ref r1), none, none] [] σ Q := by
  refine r_iconst (v := 0) ok90 0 rfl rfl rfl ?_
  refine r_istore_n ok90 1 rfl rfl ?_
  refine r_iconst (v := 0) ok90 2 rfl rfl rfl ?_
  refine r_istore_n ok90 3 rfl rfl ?_
  exact h

set_option maxRecDepth 100000 in
set_option maxHeartbeats 4000000 in
theorem B90_4 {Θ : Th} {d : Nat} {σ : Mem} {Q : Po} {o : Nat} {r1 : Nat} {x2 : Int32} {x3 : Int32} (ho : (shq o).1 = 8) (hp1 : (shq r1).1 = 1)
    (h : (((σ.1 r1 4) ≤ x3 → Q (some (.int x2)) σ) ∧ (¬ (σ.1 r1 4) ≤ x3 → Ci Θ d 18 [.ref r1, .int 16, .int x3, .int (σ.1 r1 3)] σ (fun v2 σ2 => ((v2 = 0 → G Θ (d + 1) 90 4 [some (.ref o), some (.ref r1), some (.int x2), some (.int (x3 + 1))] [] σ2 Q) ∧ (¬ v2 = 0 → (vp_in x3 16 ∧ G Θ (d + 1) 90 4 [some (.ref o), some (.ref r1), some (.int (x2 ||| (σ2.1 (o + 1) x3.toNatClampNeg))), some (.int (x3 + 1))] [] σ2 Q))))))) :
    G Θ (d + 1) 90 4 [some (.ref o), some (.ref r1), some (.int x2), some (.int x3)] [] σ Q := by
  refine r_iload_n ok90 4 rfl rfl rfl ?_
  refine r_aload_n ok90 5 rfl rfl rfl ?_
  refine r_getI ok90 6 rfl rfl hp1 rfl ?_
  refine r_icmp_ge ok90 7 rfl rfl (fun c1 => ?_) (fun c1 => ?_)
  · have h1 := h.1 c1
    refine r_iload_n ok90 24 rfl rfl rfl ?_
    exact r_iret ok90 25 rfl rfl rfl h1
  · have h1 := h.2 c1
    refine r_aload_n ok90 8 rfl rfl rfl ?_
    refine r_bipush (v := 16) ok90 9 rfl rfl rfl ?_
    refine r_iload_n ok90 10 rfl rfl rfl ?_
    refine r_aload_n ok90 11 rfl rfl rfl ?_
    refine r_getI ok90 12 rfl rfl hp1 rfl ?_
    refine r_invVi (as := [.int 16, .int x3, .int (σ.1 r1 3)]) (S := []) ok90 13 rfl rfl mf18 hp1 rfl (Nat.le_of_ble_eq_true rfl) rfl h1 (fun v2 σ2 h2 => ?_)
    refine r_if_eq ok90 14 rfl rfl (fun c3 => ?_) (fun c3 => ?_)
    · have h3 := h2.1 c3
      refine r_iinc (v := x3 + 1) ok90 22 rfl rfl rfl rfl ?_
      refine r_goto ok90 23 rfl rfl ?_
      exact h3
    · have h3 := h2.2 c3
      refine r_iload_n ok90 15 rfl rfl rfl ?_
      refine r_aload_n ok90 16 rfl rfl rfl ?_
      refine r_getF ok90 17 rfl rfl ho rfl ?_
      refine r_iload_n ok90 18 rfl rfl rfl ?_
      obtain ⟨c4, h4⟩ := h3
      refine r_iald ok90 19 rfl rfl (rel_shp ho (i := 37) rfl) c4 ?_
      refine r_ior ok90 20 rfl rfl ?_
      refine r_istore_n ok90 21 rfl rfl ?_
      refine r_iinc (v := x3 + 1) ok90 22 rfl rfl rfl rfl ?_
      refine r_goto ok90 23 rfl rfl ?_
      exact h4

theorem K90 {Θ : Th} {d : Nat} {σ : Mem} {Q : Po} {o : Nat} {r1 : Nat} (h : G Θ (d + 1) 90 0 [some (.ref o), some (.ref r1), none, none] [] σ Q) : Cm Θ (d + 1) 90 [.ref o, .ref r1] σ Q :=
  C_of_G okM90 (Nat.le_of_ble_eq_true rfl) rfl h

-- 91: LikeYears$Order.overNew(LLikeYears$Book;)I
set_option maxRecDepth 100000 in
set_option maxHeartbeats 4000000 in
theorem B91_0 {Θ : Th} {d : Nat} {σ : Mem} {Q : Po} {o : Nat} {r1 : Nat} (ho : (shq o).1 = 8) (hp1 : (shq r1).1 = 1)
    (h : G Θ (d + 1) 91 4 [some (.ref o), some (.ref r1), some (.int 0), some (.int 0)] [] σ Q) :
    G Θ (d + 1) 91 0 [some (.ref o), some (.ref r1), none, none] [] σ Q := by
  refine r_iconst (v := 0) ok91 0 rfl rfl rfl ?_
  refine r_istore_n ok91 1 rfl rfl ?_
  refine r_iconst (v := 0) ok91 2 rfl rfl rfl ?_
  refine r_istore_n ok91 3 rfl rfl ?_
  exact h

set_option maxRecDepth 100000 in
set_option maxHeartbeats 4000000 in
theorem B91_4 {Θ : Th} {d : Nat} {σ : Mem} {Q : Po} {o : Nat} {r1 : Nat} {x2 : Int32} {x3 : Int32} (ho : (shq o).1 = 8) (hp1 : (shq r1).1 = 1)
    (h : (((σ.1 r1 4) ≤ x3 → Q (some (.int x2)) σ) ∧ (¬ (σ.1 r1 4) ≤ x3 → Ci Θ d 18 [.ref r1, .int x3, .int 16, .int (σ.1 r1 3)] σ (fun v2 σ2 => ((v2 = 0 → G Θ (d + 1) 91 4 [some (.ref o), some (.ref r1), some (.int x2), some (.int (x3 + 1))] [] σ2 Q) ∧ (¬ v2 = 0 → (vp_in x3 16 ∧ G Θ (d + 1) 91 4 [some (.ref o), some (.ref r1), some (.int (x2 ||| (σ2.1 (o + 2) x3.toNatClampNeg))), some (.int (x3 + 1))] [] σ2 Q))))))) :
    G Θ (d + 1) 91 4 [some (.ref o), some (.ref r1), some (.int x2), some (.int x3)] [] σ Q := by
  refine r_iload_n ok91 4 rfl rfl rfl ?_
  refine r_aload_n ok91 5 rfl rfl rfl ?_
  refine r_getI ok91 6 rfl rfl hp1 rfl ?_
  refine r_icmp_ge ok91 7 rfl rfl (fun c1 => ?_) (fun c1 => ?_)
  · have h1 := h.1 c1
    refine r_iload_n ok91 24 rfl rfl rfl ?_
    exact r_iret ok91 25 rfl rfl rfl h1
  · have h1 := h.2 c1
    refine r_aload_n ok91 8 rfl rfl rfl ?_
    refine r_iload_n ok91 9 rfl rfl rfl ?_
    refine r_bipush (v := 16) ok91 10 rfl rfl rfl ?_
    refine r_aload_n ok91 11 rfl rfl rfl ?_
    refine r_getI ok91 12 rfl rfl hp1 rfl ?_
    refine r_invVi (as := [.int x3, .int 16, .int (σ.1 r1 3)]) (S := []) ok91 13 rfl rfl mf18 hp1 rfl (Nat.le_of_ble_eq_true rfl) rfl h1 (fun v2 σ2 h2 => ?_)
    refine r_if_eq ok91 14 rfl rfl (fun c3 => ?_) (fun c3 => ?_)
    · have h3 := h2.1 c3
      refine r_iinc (v := x3 + 1) ok91 22 rfl rfl rfl rfl ?_
      refine r_goto ok91 23 rfl rfl ?_
      exact h3
    · have h3 := h2.2 c3
      refine r_iload_n ok91 15 rfl rfl rfl ?_
      refine r_aload_n ok91 16 rfl rfl rfl ?_
      refine r_getF ok91 17 rfl rfl ho rfl ?_
      refine r_iload_n ok91 18 rfl rfl rfl ?_
      obtain ⟨c4, h4⟩ := h3
      refine r_iald ok91 19 rfl rfl (rel_shp ho (i := 38) rfl) c4 ?_
      refine r_ior ok91 20 rfl rfl ?_
      refine r_istore_n ok91 21 rfl rfl ?_
      refine r_iinc (v := x3 + 1) ok91 22 rfl rfl rfl rfl ?_
      refine r_goto ok91 23 rfl rfl ?_
      exact h4

theorem K91 {Θ : Th} {d : Nat} {σ : Mem} {Q : Po} {o : Nat} {r1 : Nat} (h : G Θ (d + 1) 91 0 [some (.ref o), some (.ref r1), none, none] [] σ Q) : Cm Θ (d + 1) 91 [.ref o, .ref r1] σ Q :=
  C_of_G okM91 (Nat.le_of_ble_eq_true rfl) rfl h

-- 92: LikeYears$Parting.reckon(LLikeYears$Book;II)V
set_option maxRecDepth 100000 in
set_option maxHeartbeats 4000000 in
theorem B92_0 {Θ : Th} {d : Nat} {σ : Mem} {Q : Po} {r1 : Nat} {x2 : Int32} {x3 : Int32} (hp1 : (shq r1).1 = 1)
    (h : Cv Θ d 94 [.ref 114, .ref r1, .int x2] σ (fun σ1 => Cl Θ d 93 [.ref r1] σ1 (fun v2 σ2 => Cv Θ d 47 [.ref 115, .long v2, .long 1] σ2 (fun σ3 => ((¬ (if (σ1.1 114 2) < x3 then σ1.1 114 2 else x3) = 0 → Cv Θ d 96 [.ref 114] (sI σ3 114 1 0) (fun σ5 => G Θ (d + 1) 92 46 [some (.ref 114), none, none, none, some (.int (if (σ1.1 114 2) < x3 then σ1.1 114 2 else x3)), some (.int 2), none] [] σ5 Q)) ∧ ((if (σ1.1 114 2) < x3 then σ1.1 114 2 else x3) = 0 → Q none (sI σ3 114 1 0))))))) :
    G Θ (d + 1) 92 0 [some (.ref 114), some (.ref r1), some (.int x2), some (.int x3), none, none, none] [] σ Q := by
  refine r_aload_n ok92 0 rfl rfl rfl ?_
  refine r_aload_n ok92 1 rfl rfl rfl ?_
  refine r_iload_n ok92 2 rfl rfl rfl ?_
  refine r_invVv (as := [.ref r1, .int x2]) (S := []) ok92 3 rfl rfl mf94 rfl rfl (Nat.le_of_ble_eq_true rfl) rfl h (fun σ1 h1 => ?_)
  refine r_iload_n ok92 4 rfl rfl rfl ?_
  refine r_aload_n ok92 5 rfl rfl rfl ?_
  refine r_getI ok92 6 rfl rfl rfl rfl ?_
  refine r_mmin ok92 7 rfl rfl rfl (Nat.le_of_ble_eq_true rfl) w_min (Nat.le_of_ble_eq_true rfl) ?_
  refine r_istore ok92 8 rfl rfl ?_
  refine r_aload_n ok92 9 rfl rfl rfl ?_
  refine r_getF ok92 10 rfl rfl rfl rfl ?_
  refine r_aload_n ok92 11 rfl rfl rfl ?_
  refine r_invSl (as := [.ref r1]) (S := [.ref 115]) ok92 12 rfl rfl mf93 rfl (Nat.le_of_ble_eq_true rfl) rfl h1 (fun v2 σ2 h2 => ?_)
  refine r_lconst (v := 1) ok92 13 rfl rfl rfl ?_
  refine r_invVv (as := [.long v2, .long 1]) (S := []) ok92 14 rfl rfl mf47 rfl rfl (Nat.le_of_ble_eq_true rfl) rfl h2 (fun σ3 h3 => ?_)
  refine r_aload_n ok92 15 rfl rfl rfl ?_
  refine r_iconst (v := 0) ok92 16 rfl rfl rfl ?_
  refine r_putI ok92 17 rfl rfl rfl rfl ?_
  refine r_iload ok92 18 rfl rfl rfl ?_
  refine r_if_ne ok92 19 rfl rfl (fun c4 => ?_) (fun c4 => ?_)
  · have h4 := h3.1 c4
    refine r_aload_n ok92 21 rfl rfl rfl ?_
    refine r_invVv (as := []) (S := []) ok92 22 rfl rfl mf96 rfl rfl (Nat.le_of_ble_eq_true rfl) rfl h4 (fun σ5 h5 => ?_)
    refine r_iconst (v := 2) ok92 23 rfl rfl rfl ?_
    refine r_istore ok92 24 rfl rfl ?_
    exact G.weak (L' := [some (.ref 114), none, none, none, some (.int (if (σ1.1 114 2) < x3 then σ1.1 114 2 else x3)), some (.int 2), none]) ⟨rfl, ⟨rfl, ⟨rfl, trivial⟩⟩⟩ h5
  · have h4 := h3.2 c4
    exact r_ret ok92 20 rfl rfl rfl h4

set_option maxRecDepth 100000 in
set_option maxHeartbeats 4000000 in
theorem B92_46 {Θ : Th} {d : Nat} {σ : Mem} {Q : Po} {x4 : Int32} {x5 : Int32} 
    (h : ((x4 < x5 → (vp_in ((x4 * 13) + (σ.1 114 2)) 169 ∧ (vp_in ((x4 * 13) + (σ.1 114 2)) 169 ∧ Cv Θ d 48 [.ref 115, .long (-(σ.2.1 119 ((x4 * 13) + (σ.1 114 2)).toNatClampNeg)), .long (σ.2.1 120 ((x4 * 13) + (σ.1 114 2)).toNatClampNeg)] σ (fun σ4 => (vp_in ((x4 * 13) + (σ.1 114 2)) 169 ∧ Q none (sI σ4 114 1 (σ4.1 121 ((x4 * 13) + (σ.1 114 2)).toNatClampNeg))))))) ∧ (¬ x4 < x5 → G Θ (d + 1) 92 57 [some (.ref 114), none, none, none, some (.int x4), some (.int x5), some (.int x5)] [] σ Q))) :
    G Θ (d + 1) 92 46 [some (.ref 114), none, none, none, some (.int x4), some (.int x5), none] [] σ Q := by
  refine r_iload ok92 25 rfl rfl rfl ?_
  refine r_iload ok92 26 rfl rfl rfl ?_
  refine r_icmp_gt ok92 27 rfl rfl (fun c1 => ?_) (fun c1 => ?_)
  · have h1 := h.1 c1
    refine r_iload ok92 42 rfl rfl rfl ?_
    refine r_bipush (v := 13) ok92 43 rfl rfl rfl ?_
    refine r_imul ok92 44 rfl rfl ?_
    refine r_aload_n ok92 45 rfl rfl rfl ?_
    refine r_getI ok92 46 rfl rfl rfl rfl ?_
    refine r_iadd ok92 47 rfl rfl ?_
    refine r_istore ok92 48 rfl rfl ?_
    refine r_aload_n ok92 49 rfl rfl rfl ?_
    refine r_getF ok92 50 rfl rfl rfl rfl ?_
    refine r_aload_n ok92 51 rfl rfl rfl ?_
    refine r_getF ok92 52 rfl rfl rfl rfl ?_
    refine r_iload ok92 53 rfl rfl rfl ?_
    obtain ⟨c2, h2⟩ := h1
    refine r_lald ok92 54 rfl rfl rfl c2 ?_
    refine r_lneg ok92 55 rfl rfl ?_
    refine r_aload_n ok92 56 rfl rfl rfl ?_
    refine r_getF ok92 57 rfl rfl rfl rfl ?_
    refine r_iload ok92 58 rfl rfl rfl ?_
    obtain ⟨c3, h3⟩ := h2
    refine r_lald ok92 59 rfl rfl rfl c3 ?_
    refine r_invVv (as := [.long (-(σ.2.1 119 ((x4 * 13) + (σ.1 114 2)).toNatClampNeg)), .long (σ.2.1 120 ((x4 * 13) + (σ.1 114 2)).toNatClampNeg)]) (S := []) ok92 60 rfl rfl mf48 rfl rfl (Nat.le_of_ble_eq_true rfl) rfl h3 (fun σ4 h4 => ?_)
    refine r_aload_n ok92 61 rfl rfl rfl ?_
    refine r_aload_n ok92 62 rfl rfl rfl ?_
    refine r_getF ok92 63 rfl rfl rfl rfl ?_
    refine r_iload ok92 64 rfl rfl rfl ?_
    obtain ⟨c5, h5⟩ := h4
    refine r_iald ok92 65 rfl rfl rfl c5 ?_
    refine r_putI ok92 66 rfl rfl rfl rfl ?_
    exact r_ret ok92 67 rfl rfl rfl h5
  · have h1 := h.2 c1
    refine r_iload ok92 28 rfl rfl rfl ?_
    refine r_istore ok92 29 rfl rfl ?_
    exact h1

set_option maxRecDepth 100000 in
set_option maxHeartbeats 4000000 in
theorem B92_57 {Θ : Th} {d : Nat} {σ : Mem} {Q : Po} {x4 : Int32} {x5 : Int32} {x6 : Int32} 
    (h : (((σ.1 114 2) < x6 → G Θ (d + 1) 92 46 [some (.ref 114), none, none, none, some (.int x4), some (.int (x5 + 1)), none] [] σ Q) ∧ (¬ (σ.1 114 2) < x6 → Cv Θ d 97 [.ref 114, .int x5, .int x6] σ (fun σ2 => G Θ (d + 1) 92 57 [some (.ref 114), none, none, none, some (.int x4), some (.int x5), some (.int (x6 + 1))] [] σ2 Q)))) :
    G Θ (d + 1) 92 57 [some (.ref 114), none, none, none, some (.int x4), some (.int x5), some (.int x6)] [] σ Q := by
  refine r_iload ok92 30 rfl rfl rfl ?_
  refine r_aload_n ok92 31 rfl rfl rfl ?_
  refine r_getI ok92 32 rfl rfl rfl rfl ?_
  refine r_icmp_gt ok92 33 rfl rfl (fun c1 => ?_) (fun c1 => ?_)
  · have h1 := h.1 c1
    refine r_iinc (v := x5 + 1) ok92 40 rfl rfl rfl rfl ?_
    refine r_goto ok92 41 rfl rfl ?_
    exact G.weak (L' := [some (.ref 114), none, none, none, some (.int x4), some (.int (x5 + 1)), none]) ⟨rfl, ⟨rfl, ⟨rfl, trivial⟩⟩⟩ h1
  · have h1 := h.2 c1
    refine r_aload_n ok92 34 rfl rfl rfl ?_
    refine r_iload ok92 35 rfl rfl rfl ?_
    refine r_iload ok92 36 rfl rfl rfl ?_
    refine r_invVv (as := [.int x5, .int x6]) (S := []) ok92 37 rfl rfl mf97 rfl rfl (Nat.le_of_ble_eq_true rfl) rfl h1 (fun σ2 h2 => ?_)
    refine r_iinc (v := x6 + 1) ok92 38 rfl rfl rfl rfl ?_
    refine r_goto ok92 39 rfl rfl ?_
    exact h2

theorem K92 {Θ : Th} {d : Nat} {σ : Mem} {Q : Po} {r1 : Nat} {x2 : Int32} {x3 : Int32} (h : G Θ (d + 1) 92 0 [some (.ref 114), some (.ref r1), some (.int x2), some (.int x3), none, none, none] [] σ Q) : Cm Θ (d + 1) 92 [.ref 114, .ref r1, .int x2, .int x3] σ Q :=
  C_of_G okM92 (Nat.le_of_ble_eq_true rfl) rfl h

-- 93: LikeYears$Parting.squares(LLikeYears$Book;)J
set_option maxRecDepth 100000 in
set_option maxHeartbeats 4000000 in
theorem B93_0 {Θ : Th} {d : Nat} {σ : Mem} {Q : Po} {r0 : Nat} (hp0 : (shq r0).1 = 1)
    (h : G Θ d 93 4 [some (.ref r0), some (.long 0), none, some (.int 0)] [] σ Q) :
    G Θ d 93 0 [some (.ref r0), none, none, none] [] σ Q := by
  refine r_lconst (v := 0) ok93 0 rfl rfl rfl ?_
  refine r_lstore_n ok93 1 rfl rfl ?_
  refine r_iconst (v := 0) ok93 2 rfl rfl rfl ?_
  refine r_istore_n ok93 3 rfl rfl ?_
  exact h

set_option maxRecDepth 100000 in
set_option maxHeartbeats 4000000 in
theorem B93_4 {Θ : Th} {d : Nat} {σ : Mem} {Q : Po} {r0 : Nat} {x1 : Int64} {x3 : Int32} (hp0 : (shq r0).1 = 1)
    (h : (((σ.1 r0 4) ≤ x3 → Q (some (.long x1)) σ) ∧ (¬ (σ.1 r0 4) ≤ x3 → (vp_in x3 16 ∧ (vp_in x3 16 ∧ (vp_in x3 16 ∧ G Θ d 93 4 [some (.ref r0), some (.long (x1 + ((((σ.1 (r0 + 6) x3.toNatClampNeg) * (σ.1 (r0 + 5) x3.toNatClampNeg)) * (σ.1 (r0 + 5) x3.toNatClampNeg)).toInt64))), none, some (.int (x3 + 1))] [] σ Q)))))) :
    G Θ d 93 4 [some (.ref r0), some (.long x1), none, some (.int x3)] [] σ Q := by
  refine r_iload_n ok93 4 rfl rfl rfl ?_
  refine r_aload_n ok93 5 rfl rfl rfl ?_
  refine r_getI ok93 6 rfl rfl hp0 rfl ?_
  refine r_icmp_ge ok93 7 rfl rfl (fun c1 => ?_) (fun c1 => ?_)
  · have h1 := h.1 c1
    refine r_lload_n ok93 28 rfl rfl rfl ?_
    exact r_lret ok93 29 rfl rfl rfl h1
  · have h1 := h.2 c1
    refine r_lload_n ok93 8 rfl rfl rfl ?_
    refine r_aload_n ok93 9 rfl rfl rfl ?_
    refine r_getF ok93 10 rfl rfl hp0 rfl ?_
    refine r_iload_n ok93 11 rfl rfl rfl ?_
    obtain ⟨c2, h2⟩ := h1
    refine r_iald ok93 12 rfl rfl (rel_shp hp0 (i := 9) rfl) c2 ?_
    refine r_aload_n ok93 13 rfl rfl rfl ?_
    refine r_getF ok93 14 rfl rfl hp0 rfl ?_
    refine r_iload_n ok93 15 rfl rfl rfl ?_
    obtain ⟨c3, h3⟩ := h2
    refine r_iald ok93 16 rfl rfl (rel_shp hp0 (i := 8) rfl) c3 ?_
    refine r_imul ok93 17 rfl rfl ?_
    refine r_aload_n ok93 18 rfl rfl rfl ?_
    refine r_getF ok93 19 rfl rfl hp0 rfl ?_
    refine r_iload_n ok93 20 rfl rfl rfl ?_
    obtain ⟨c4, h4⟩ := h3
    refine r_iald ok93 21 rfl rfl (rel_shp hp0 (i := 8) rfl) c4 ?_
    refine r_imul ok93 22 rfl rfl ?_
    refine r_i2l ok93 23 rfl rfl ?_
    refine r_ladd ok93 24 rfl rfl ?_
    refine r_lstore_n ok93 25 rfl rfl ?_
    refine r_iinc (v := x3 + 1) ok93 26 rfl rfl rfl rfl ?_
    refine r_goto ok93 27 rfl rfl ?_
    exact h4

theorem K93 {Θ : Th} {d : Nat} {σ : Mem} {Q : Po} {r0 : Nat} (h : G Θ d 93 0 [some (.ref r0), none, none, none] [] σ Q) : Cm Θ d 93 [.ref r0] σ Q :=
  C_of_G okM93 (Nat.le_of_ble_eq_true rfl) rfl h

-- 94: LikeYears$Parting.pool(LLikeYears$Book;I)V
set_option maxRecDepth 100000 in
set_option maxHeartbeats 4000000 in
theorem B94_0 {Θ : Th} {d : Nat} {σ : Mem} {Q : Po} {r1 : Nat} {x2 : Int32} (hp1 : (shq r1).1 = 1)
    (h : G Θ (d + 1) 94 10 [some (.ref 114), some (.ref r1), some (.int x2), some (.int 0), some (.int 0), none, none, none] [] (sI σ 114 2 0) Q) :
    G Θ (d + 1) 94 0 [some (.ref 114), some (.ref r1), some (.int x2), none, none, none, none, none] [] σ Q := by
  refine r_aload_n ok94 0 rfl rfl rfl ?_
  refine r_iconst (v := 0) ok94 1 rfl rfl rfl ?_
  refine r_putI ok94 2 rfl rfl rfl rfl ?_
  refine r_iconst (v := 0) ok94 3 rfl rfl rfl ?_
  refine r_istore_n ok94 4 rfl rfl ?_
  refine r_iconst (v := 0) ok94 5 rfl rfl rfl ?_
  refine r_istore ok94 6 rfl rfl ?_
  exact h

set_option maxRecDepth 100000 in
set_option maxHeartbeats 4000000 in
theorem B94_10 {Θ : Th} {d : Nat} {σ : Mem} {Q : Po} {r1 : Nat} {x2 : Int32} {x3 : Int32} {x4 : Int32} (hp1 : (shq r1).1 = 1)
    (h : ((11 < x4 → Q none σ) ∧ (¬ 11 < x4 → G Θ (d + 1) 94 26 [some (.ref 114), some (.ref r1), some (.int x2), some (.int x3), some (.int x4), some (.int 0), some (.int 0), some (.int 0)] [] σ Q))) :
    G Θ (d + 1) 94 10 [some (.ref 114), some (.ref r1), some (.int x2), some (.int x3), some (.int x4), none, none, none] [] σ Q := by
  refine r_iload ok94 7 rfl rfl rfl ?_
  refine r_bipush (v := 11) ok94 8 rfl rfl rfl ?_
  refine r_icmp_gt ok94 9 rfl rfl (fun c1 => ?_) (fun c1 => ?_)
  · have h1 := h.1 c1
    exact r_ret ok94 83 rfl rfl rfl h1
  · have h1 := h.2 c1
    refine r_iconst (v := 0) ok94 10 rfl rfl rfl ?_
    refine r_istore ok94 11 rfl rfl ?_
    refine r_iconst (v := 0) ok94 12 rfl rfl rfl ?_
    refine r_istore ok94 13 rfl rfl ?_
    refine r_iconst (v := 0) ok94 14 rfl rfl rfl ?_
    refine r_istore ok94 15 rfl rfl ?_
    exact h1

set_option maxRecDepth 100000 in
set_option maxHeartbeats 4000000 in
theorem B94_26 {Θ : Th} {d : Nat} {σ : Mem} {Q : Po} {r1 : Nat} {x2 : Int32} {x3 : Int32} {x4 : Int32} {x5 : Int32} {x6 : Int32} {x7 : Int32} (hp1 : (shq r1).1 = 1)
    (h : (((σ.1 r1 4) ≤ x7 → ((x5 ≤ 0 → G Θ (d + 1) 94 10 [some (.ref 114), some (.ref r1), some (.int x2), some (.int x3), some (.int (x4 + 1)), none, none, none] [] σ Q) ∧ (¬ x5 ≤ 0 → (vp_in (σ.1 114 2) 13 ∧ (vp_in ((sI σ 116 ((σ.1 114 2).toNatClampNeg) x5).1 114 2) 13 ∧ (vp_in ((sI (sI σ 116 ((σ.1 114 2).toNatClampNeg) x5) 117 (((sI σ 116 ((σ.1 114 2).toNatClampNeg) x5).1 114 2).toNatClampNeg) x6).1 114 2) 13 ∧ Cv Θ d 95 [.ref 114] (sI (sI (sI (sI σ 116 ((σ.1 114 2).toNatClampNeg) x5) 117 (((sI σ 116 ((σ.1 114 2).toNatClampNeg) x5).1 114 2).toNatClampNeg) x6) 118 (((sI (sI σ 116 ((σ.1 114 2).toNatClampNeg) x5) 117 (((sI σ 116 ((σ.1 114 2).toNatClampNeg) x5).1 114 2).toNatClampNeg) x6).1 114 2).toNatClampNeg) x3) 114 2 (((sI (sI (sI σ 116 ((σ.1 114 2).toNatClampNeg) x5) 117 (((sI σ 116 ((σ.1 114 2).toNatClampNeg) x5).1 114 2).toNatClampNeg) x6) 118 (((sI (sI σ 116 ((σ.1 114 2).toNatClampNeg) x5) 117 (((sI σ 116 ((σ.1 114 2).toNatClampNeg) x5).1 114 2).toNatClampNeg) x6).1 114 2).toNatClampNeg) x3).1 114 2) + 1)) (fun σ6 => G Θ (d + 1) 94 10 [some (.ref 114), some (.ref r1), some (.int x2), some (.int ((1 : Int32) <<< ((x4 + 1) &&& 31))), some (.int (x4 + 1)), none, none, none] [] σ6 Q))))))) ∧ (¬ (σ.1 r1 4) ≤ x7 → Ci Θ d 15 [.ref r1, .int x7, .int x2] σ (fun v7 σ7 => ((¬ v7 = x4 → G Θ (d + 1) 94 26 [some (.ref 114), some (.ref r1), some (.int x2), some (.int x3), some (.int x4), some (.int x5), some (.int x6), some (.int (x7 + 1))] [] σ7 Q) ∧ (v7 = x4 → (vp_in x7 16 ∧ (vp_in x7 16 ∧ (vp_in x7 16 ∧ G Θ (d + 1) 94 26 [some (.ref 114), some (.ref r1), some (.int x2), some (.int x3), some (.int x4), some (.int (x5 + (σ7.1 (r1 + 6) x7.toNatClampNeg))), some (.int (x6 + ((σ7.1 (r1 + 6) x7.toNatClampNeg) * (σ7.1 (r1 + 5) x7.toNatClampNeg)))), some (.int (x7 + 1))] [] σ7 Q))))))))) :
    G Θ (d + 1) 94 26 [some (.ref 114), some (.ref r1), some (.int x2), some (.int x3), some (.int x4), some (.int x5), some (.int x6), some (.int x7)] [] σ Q := by
  refine r_iload ok94 16 rfl rfl rfl ?_
  refine r_aload_n ok94 17 rfl rfl rfl ?_
  refine r_getI ok94 18 rfl rfl hp1 rfl ?_
  refine r_icmp_ge ok94 19 rfl rfl (fun c1 => ?_) (fun c1 => ?_)
  · have h1 := h.1 c1
    refine r_iload ok94 47 rfl rfl rfl ?_
    refine r_if_le ok94 48 rfl rfl (fun c2 => ?_) (fun c2 => ?_)
    · have h2 := h1.1 c2
      refine r_iinc (v := x4 + 1) ok94 81 rfl rfl rfl rfl ?_
      refine r_goto ok94 82 rfl rfl ?_
      exact G.weak (L' := [some (.ref 114), some (.ref r1), some (.int x2), some (.int x3), some (.int (x4 + 1)), none, none, none]) ⟨rfl, ⟨rfl, ⟨rfl, ⟨rfl, ⟨rfl, trivial⟩⟩⟩⟩⟩ h2
    · have h2 := h1.2 c2
      refine r_aload_n ok94 49 rfl rfl rfl ?_
      refine r_getF ok94 50 rfl rfl rfl rfl ?_
      refine r_aload_n ok94 51 rfl rfl rfl ?_
      refine r_getI ok94 52 rfl rfl rfl rfl ?_
      refine r_iload ok94 53 rfl rfl rfl ?_
      obtain ⟨c3, h3⟩ := h2
      refine r_iast ok94 54 rfl rfl rfl c3 ?_
      refine r_aload_n ok94 55 rfl rfl rfl ?_
      refine r_getF ok94 56 rfl rfl rfl rfl ?_
      refine r_aload_n ok94 57 rfl rfl rfl ?_
      refine r_getI ok94 58 rfl rfl rfl rfl ?_
      refine r_iload ok94 59 rfl rfl rfl ?_
      obtain ⟨c4, h4⟩ := h3
      refine r_iast ok94 60 rfl rfl rfl c4 ?_
      refine r_aload_n ok94 61 rfl rfl rfl ?_
      refine r_getF ok94 62 rfl rfl rfl rfl ?_
      refine r_aload_n ok94 63 rfl rfl rfl ?_
      refine r_getI ok94 64 rfl rfl rfl rfl ?_
      refine r_iload_n ok94 65 rfl rfl rfl ?_
      obtain ⟨c5, h5⟩ := h4
      refine r_iast ok94 66 rfl rfl rfl c5 ?_
      refine r_aload_n ok94 67 rfl rfl rfl ?_
      refine r_dup ok94 68 rfl rfl rfl ?_
      refine r_getI ok94 69 rfl rfl rfl rfl ?_
      refine r_iconst (v := 1) ok94 70 rfl rfl rfl ?_
      refine r_iadd ok94 71 rfl rfl ?_
      refine r_putI ok94 72 rfl rfl rfl rfl ?_
      refine r_aload_n ok94 73 rfl rfl rfl ?_
      refine r_invVv (as := []) (S := []) ok94 74 rfl rfl mf95 rfl rfl (Nat.le_of_ble_eq_true rfl) rfl h5 (fun σ6 h6 => ?_)
      refine r_iconst (v := 1) ok94 75 rfl rfl rfl ?_
      refine r_iload ok94 76 rfl rfl rfl ?_
      refine r_iconst (v := 1) ok94 77 rfl rfl rfl ?_
      refine r_iadd ok94 78 rfl rfl ?_
      refine r_ishl ok94 79 rfl rfl ?_
      refine r_istore_n ok94 80 rfl rfl ?_
      refine r_iinc (v := x4 + 1) ok94 81 rfl rfl rfl rfl ?_
      refine r_goto ok94 82 rfl rfl ?_
      exact G.weak (L' := [some (.ref 114), some (.ref r1), some (.int x2), some (.int ((1 : Int32) <<< ((x4 + 1) &&& 31))), some (.int (x4 + 1)), none, none, none]) ⟨rfl, ⟨rfl, ⟨rfl, ⟨rfl, ⟨rfl, trivial⟩⟩⟩⟩⟩ h6
  · have h1 := h.2 c1
    refine r_aload_n ok94 20 rfl rfl rfl ?_
    refine r_iload ok94 21 rfl rfl rfl ?_
    refine r_iload_n ok94 22 rfl rfl rfl ?_
    refine r_invVi (as := [.int x7, .int x2]) (S := []) ok94 23 rfl rfl mf15 hp1 rfl (Nat.le_of_ble_eq_true rfl) rfl h1 (fun v7 σ7 h7 => ?_)
    refine r_iload ok94 24 rfl rfl rfl ?_
    refine r_icmp_ne ok94 25 rfl rfl (fun c8 => ?_) (fun c8 => ?_)
    · have h8 := h7.1 c8
      refine r_iinc (v := x7 + 1) ok94 45 rfl rfl rfl rfl ?_
      refine r_goto ok94 46 rfl rfl ?_
      exact h8
    · have h8 := h7.2 c8
      refine r_iload ok94 26 rfl rfl rfl ?_
      refine r_aload_n ok94 27 rfl rfl rfl ?_
      refine r_getF ok94 28 rfl rfl hp1 rfl ?_
      refine r_iload ok94 29 rfl rfl rfl ?_
      obtain ⟨c9, h9⟩ := h8
      refine r_iald ok94 30 rfl rfl (rel_shp hp1 (i := 9) rfl) c9 ?_
      refine r_iadd ok94 31 rfl rfl ?_
      refine r_istore ok94 32 rfl rfl ?_
      refine r_iload ok94 33 rfl rfl rfl ?_
      refine r_aload_n ok94 34 rfl rfl rfl ?_
      refine r_getF ok94 35 rfl rfl hp1 rfl ?_
      refine r_iload ok94 36 rfl rfl rfl ?_
      obtain ⟨c10, h10⟩ := h9
      refine r_iald ok94 37 rfl rfl (rel_shp hp1 (i := 9) rfl) c10 ?_
      refine r_aload_n ok94 38 rfl rfl rfl ?_
      refine r_getF ok94 39 rfl rfl hp1 rfl ?_
      refine r_iload ok94 40 rfl rfl rfl ?_
      obtain ⟨c11, h11⟩ := h10
      refine r_iald ok94 41 rfl rfl (rel_shp hp1 (i := 8) rfl) c11 ?_
      refine r_imul ok94 42 rfl rfl ?_
      refine r_iadd ok94 43 rfl rfl ?_
      refine r_istore ok94 44 rfl rfl ?_
      refine r_iinc (v := x7 + 1) ok94 45 rfl rfl rfl rfl ?_
      refine r_goto ok94 46 rfl rfl ?_
      exact h11

theorem K94 {Θ : Th} {d : Nat} {σ : Mem} {Q : Po} {r1 : Nat} {x2 : Int32} (h : G Θ (d + 1) 94 0 [some (.ref 114), some (.ref r1), some (.int x2), none, none, none, none, none] [] σ Q) : Cm Θ (d + 1) 94 [.ref 114, .ref r1, .int x2] σ Q :=
  C_of_G okM94 (Nat.le_of_ble_eq_true rfl) rfl h

-- 95: LikeYears$Parting.joinFalling()V
set_option maxRecDepth 100000 in
set_option maxHeartbeats 4000000 in
theorem B95_0 {Θ : Th} {d : Nat} {σ : Mem} {Q : Po} 
    (h : G Θ d 95 2 [some (.ref 114), some (.int 0), none] [] σ Q) :
    G Θ d 95 0 [some (.ref 114), none, none] [] σ Q := by
  refine r_iconst (v := 0) ok95 0 rfl rfl rfl ?_
  refine r_istore_n ok95 1 rfl rfl ?_
  exact h

set_option maxRecDepth 100000 in
set_option maxHeartbeats 4000000 in
theorem B95_2 {Θ : Th} {d : Nat} {σ : Mem} {Q : Po} {x1 : Int32} 
    (h : ((12 ≤ x1 → Q none σ) ∧ (¬ 12 ≤ x1 → (((σ.1 114 2) ≤ 1 → Q none σ) ∧ (¬ (σ.1 114 2) ≤ 1 → (vp_in (((σ.1 114 2) - 1) - 1) 13 ∧ (vp_in ((σ.1 114 2) - 1) 13 ∧ (vp_in ((σ.1 114 2) - 1) 13 ∧ (vp_in (((σ.1 114 2) - 1) - 1) 13 ∧ ((((σ.1 117 ((σ.1 114 2) - 1).toNatClampNeg) * (σ.1 116 (((σ.1 114 2) - 1) - 1).toNatClampNeg)) ≤ ((σ.1 117 (((σ.1 114 2) - 1) - 1).toNatClampNeg) * (σ.1 116 ((σ.1 114 2) - 1).toNatClampNeg)) → (vp_in (((σ.1 114 2) - 1) - 1) 13 ∧ (vp_in ((σ.1 114 2) - 1) 13 ∧ (vp_in (((σ.1 114 2) - 1) - 1) 13 ∧ (vp_in (((σ.1 114 2) - 1) - 1) 13 ∧ (vp_in ((σ.1 114 2) - 1) 13 ∧ (vp_in (((σ.1 114 2) - 1) - 1) 13 ∧ G Θ d 95 2 [some (.ref 114), some (.int (x1 + 1)), none] [] (sI (sI (sI σ 117 ((((σ.1 114 2) - 1) - 1).toNatClampNeg) ((σ.1 117 (((σ.1 114 2) - 1) - 1).toNatClampNeg) + (σ.1 117 ((σ.1 114 2) - 1).toNatClampNeg))) 116 ((((σ.1 114 2) - 1) - 1).toNatClampNeg) (((sI σ 117 ((((σ.1 114 2) - 1) - 1).toNatClampNeg) ((σ.1 117 (((σ.1 114 2) - 1) - 1).toNatClampNeg) + (σ.1 117 ((σ.1 114 2) - 1).toNatClampNeg))).1 116 (((σ.1 114 2) - 1) - 1).toNatClampNeg) + ((sI σ 117 ((((σ.1 114 2) - 1) - 1).toNatClampNeg) ((σ.1 117 (((σ.1 114 2) - 1) - 1).toNatClampNeg) + (σ.1 117 ((σ.1 114 2) - 1).toNatClampNeg))).1 116 ((σ.1 114 2) - 1).toNatClampNeg))) 114 2 (((sI (sI σ 117 ((((σ.1 114 2) - 1) - 1).toNatClampNeg) ((σ.1 117 (((σ.1 114 2) - 1) - 1).toNatClampNeg) + (σ.1 117 ((σ.1 114 2) - 1).toNatClampNeg))) 116 ((((σ.1 114 2) - 1) - 1).toNatClampNeg) (((sI σ 117 ((((σ.1 114 2) - 1) - 1).toNatClampNeg) ((σ.1 117 (((σ.1 114 2) - 1) - 1).toNatClampNeg) + (σ.1 117 ((σ.1 114 2) - 1).toNatClampNeg))).1 116 (((σ.1 114 2) - 1) - 1).toNatClampNeg) + ((sI σ 117 ((((σ.1 114 2) - 1) - 1).toNatClampNeg) ((σ.1 117 (((σ.1 114 2) - 1) - 1).toNatClampNeg) + (σ.1 117 ((σ.1 114 2) - 1).toNatClampNeg))).1 116 ((σ.1 114 2) - 1).toNatClampNeg))).1 114 2) - 1)) Q))))))) ∧ (¬ ((σ.1 117 ((σ.1 114 2) - 1).toNatClampNeg) * (σ.1 116 (((σ.1 114 2) - 1) - 1).toNatClampNeg)) ≤ ((σ.1 117 (((σ.1 114 2) - 1) - 1).toNatClampNeg) * (σ.1 116 ((σ.1 114 2) - 1).toNatClampNeg)) → Q none σ))))))))))) :
    G Θ d 95 2 [some (.ref 114), some (.int x1), none] [] σ Q := by
  refine r_iload_n ok95 2 rfl rfl rfl ?_
  refine r_bipush (v := 12) ok95 3 rfl rfl rfl ?_
  refine r_icmp_ge ok95 4 rfl rfl (fun c1 => ?_) (fun c1 => ?_)
  · have h1 := h.1 c1
    exact r_ret ok95 72 rfl rfl rfl h1
  · have h1 := h.2 c1
    refine r_aload_n ok95 5 rfl rfl rfl ?_
    refine r_getI ok95 6 rfl rfl rfl rfl ?_
    refine r_iconst (v := 1) ok95 7 rfl rfl rfl ?_
    refine r_icmp_le ok95 8 rfl rfl (fun c2 => ?_) (fun c2 => ?_)
    · have h2 := h1.1 c2
      exact r_ret ok95 72 rfl rfl rfl h2
    · have h2 := h1.2 c2
      refine r_aload_n ok95 9 rfl rfl rfl ?_
      refine r_getI ok95 10 rfl rfl rfl rfl ?_
      refine r_iconst (v := 1) ok95 11 rfl rfl rfl ?_
      refine r_isub ok95 12 rfl rfl ?_
      refine r_istore_n ok95 13 rfl rfl ?_
      refine r_aload_n ok95 14 rfl rfl rfl ?_
      refine r_getF ok95 15 rfl rfl rfl rfl ?_
      refine r_iload_n ok95 16 rfl rfl rfl ?_
      refine r_iconst (v := 1) ok95 17 rfl rfl rfl ?_
      refine r_isub ok95 18 rfl rfl ?_
      obtain ⟨c3, h3⟩ := h2
      refine r_iald ok95 19 rfl rfl rfl c3 ?_
      refine r_aload_n ok95 20 rfl rfl rfl ?_
      refine r_getF ok95 21 rfl rfl rfl rfl ?_
      refine r_iload_n ok95 22 rfl rfl rfl ?_
      obtain ⟨c4, h4⟩ := h3
      refine r_iald ok95 23 rfl rfl rfl c4 ?_
      refine r_imul ok95 24 rfl rfl ?_
      refine r_aload_n ok95 25 rfl rfl rfl ?_
      refine r_getF ok95 26 rfl rfl rfl rfl ?_
      refine r_iload_n ok95 27 rfl rfl rfl ?_
      obtain ⟨c5, h5⟩ := h4
      refine r_iald ok95 28 rfl rfl rfl c5 ?_
      refine r_aload_n ok95 29 rfl rfl rfl ?_
      refine r_getF ok95 30 rfl rfl rfl rfl ?_
      refine r_iload_n ok95 31 rfl rfl rfl ?_
      refine r_iconst (v := 1) ok95 32 rfl rfl rfl ?_
      refine r_isub ok95 33 rfl rfl ?_
      obtain ⟨c6, h6⟩ := h5
      refine r_iald ok95 34 rfl rfl rfl c6 ?_
      refine r_imul ok95 35 rfl rfl ?_
      refine r_icmp_ge ok95 36 rfl rfl (fun c7 => ?_) (fun c7 => ?_)
      · have h7 := h6.1 c7
        refine r_aload_n ok95 38 rfl rfl rfl ?_
        refine r_getF ok95 39 rfl rfl rfl rfl ?_
        refine r_iload_n ok95 40 rfl rfl rfl ?_
        refine r_iconst (v := 1) ok95 41 rfl rfl rfl ?_
        refine r_isub ok95 42 rfl rfl ?_
        refine r_dup2a ok95 43 rfl rfl rfl rfl ?_
        obtain ⟨c8, h8⟩ := h7
        refine r_iald ok95 44 rfl rfl rfl c8 ?_
        refine r_aload_n ok95 45 rfl rfl rfl ?_
        refine r_getF ok95 46 rfl rfl rfl rfl ?_
        refine r_iload_n ok95 47 rfl rfl rfl ?_
        obtain ⟨c9, h9⟩ := h8
        refine r_iald ok95 48 rfl rfl rfl c9 ?_
        refine r_iadd ok95 49 rfl rfl ?_
        obtain ⟨c10, h10⟩ := h9
        refine r_iast ok95 50 rfl rfl rfl c10 ?_
        refine r_aload_n ok95 51 rfl rfl rfl ?_
        refine r_getF ok95 52 rfl rfl rfl rfl ?_
        refine r_iload_n ok95 53 rfl rfl rfl ?_
        refine r_iconst (v := 1) ok95 54 rfl rfl rfl ?_
        refine r_isub ok95 55 rfl rfl ?_
        refine r_dup2a ok95 56 rfl rfl rfl rfl ?_
        obtain ⟨c11, h11⟩ := h10
        refine r_iald ok95 57 rfl rfl rfl c11 ?_
        refine r_aload_n ok95 58 rfl rfl rfl ?_
        refine r_getF ok95 59 rfl rfl rfl rfl ?_
        refine r_iload_n ok95 60 rfl rfl rfl ?_
        obtain ⟨c12, h12⟩ := h11
        refine r_iald ok95 61 rfl rfl rfl c12 ?_
        refine r_iadd ok95 62 rfl rfl ?_
        obtain ⟨c13, h13⟩ := h12
        refine r_iast ok95 63 rfl rfl rfl c13 ?_
        refine r_aload_n ok95 64 rfl rfl rfl ?_
        refine r_dup ok95 65 rfl rfl rfl ?_
        refine r_getI ok95 66 rfl rfl rfl rfl ?_
        refine r_iconst (v := 1) ok95 67 rfl rfl rfl ?_
        refine r_isub ok95 68 rfl rfl ?_
        refine r_putI ok95 69 rfl rfl rfl rfl ?_
        refine r_iinc (v := x1 + 1) ok95 70 rfl rfl rfl rfl ?_
        refine r_goto ok95 71 rfl rfl ?_
        exact G.weak (L' := [some (.ref 114), some (.int (x1 + 1)), none]) ⟨rfl, ⟨rfl, trivial⟩⟩ h13
      · have h7 := h6.2 c7
        exact r_ret ok95 37 rfl rfl rfl h7

theorem K95 {Θ : Th} {d : Nat} {σ : Mem} {Q : Po} (h : G Θ d 95 0 [some (.ref 114), none, none] [] σ Q) : Cm Θ d 95 [.ref 114] σ Q :=
  C_of_G okM95 (Nat.le_of_ble_eq_true rfl) rfl h

-- 96: LikeYears$Parting.oneRun()V
set_option maxRecDepth 100000 in
set_option maxHeartbeats 4000000 in
theorem B96_0 {Θ : Th} {d : Nat} {σ : Mem} {Q : Po} 
    (h : G Θ (d + 1) 96 2 [some (.ref 114), some (.int 1)] [] σ Q) :
    G Θ (d + 1) 96 0 [some (.ref 114), none] [] σ Q := by
  refine r_iconst (v := 1) ok96 0 rfl rfl rfl ?_
  refine r_istore_n ok96 1 rfl rfl ?_
  exact h

set_option maxRecDepth 100000 in
set_option maxHeartbeats 4000000 in
theorem B96_2 {Θ : Th} {d : Nat} {σ : Mem} {Q : Po} {x1 : Int32} 
    (h : (((σ.1 114 2) < x1 → Q none σ) ∧ (¬ (σ.1 114 2) < x1 → Cv Θ d 47 [.ref 122, .long 0, .long 1] σ (fun σ2 => Cv Θ d 99 [.ref 114, .int 0, .int x1] σ2 (fun σ3 => Cv Θ d 98 [.ref 114, .int (13 + x1), .int 0] σ3 (fun σ4 => G Θ (d + 1) 96 2 [some (.ref 114), some (.int (x1 + 1))] [] σ4 Q)))))) :
    G Θ (d + 1) 96 2 [some (.ref 114), some (.int x1)] [] σ Q := by
  refine r_iload_n ok96 2 rfl rfl rfl ?_
  refine r_aload_n ok96 3 rfl rfl rfl ?_
  refine r_getI ok96 4 rfl rfl rfl rfl ?_
  refine r_icmp_gt ok96 5 rfl rfl (fun c1 => ?_) (fun c1 => ?_)
  · have h1 := h.1 c1
    exact r_ret ok96 23 rfl rfl rfl h1
  · have h1 := h.2 c1
    refine r_aload_n ok96 6 rfl rfl rfl ?_
    refine r_getF ok96 7 rfl rfl rfl rfl ?_
    refine r_lconst (v := 0) ok96 8 rfl rfl rfl ?_
    refine r_lconst (v := 1) ok96 9 rfl rfl rfl ?_
    refine r_invVv (as := [.long 0, .long 1]) (S := []) ok96 10 rfl rfl mf47 rfl rfl (Nat.le_of_ble_eq_true rfl) rfl h1 (fun σ2 h2 => ?_)
    refine r_aload_n ok96 11 rfl rfl rfl ?_
    refine r_iconst (v := 0) ok96 12 rfl rfl rfl ?_
    refine r_iload_n ok96 13 rfl rfl rfl ?_
    refine r_invVv (as := [.int 0, .int x1]) (S := []) ok96 14 rfl rfl mf99 rfl rfl (Nat.le_of_ble_eq_true rfl) rfl h2 (fun σ3 h3 => ?_)
    refine r_aload_n ok96 15 rfl rfl rfl ?_
    refine r_bipush (v := 13) ok96 16 rfl rfl rfl ?_
    refine r_iload_n ok96 17 rfl rfl rfl ?_
    refine r_iadd ok96 18 rfl rfl ?_
    refine r_iconst (v := 0) ok96 19 rfl rfl rfl ?_
    refine r_invVv (as := [.int (13 + x1), .int 0]) (S := []) ok96 20 rfl rfl mf98 rfl rfl (Nat.le_of_ble_eq_true rfl) rfl h3 (fun σ4 h4 => ?_)
    refine r_iinc (v := x1 + 1) ok96 21 rfl rfl rfl rfl ?_
    refine r_goto ok96 22 rfl rfl ?_
    exact h4

theorem K96 {Θ : Th} {d : Nat} {σ : Mem} {Q : Po} (h : G Θ (d + 1) 96 0 [some (.ref 114), none] [] σ Q) : Cm Θ (d + 1) 96 [.ref 114] σ Q :=
  C_of_G okM96 (Nat.le_of_ble_eq_true rfl) rfl h

-- 97: LikeYears$Parting.lastRun(II)V
set_option maxRecDepth 100000 in
set_option maxHeartbeats 4000000 in
theorem B97_0 {Θ : Th} {d : Nat} {σ : Mem} {Q : Po} {x1 : Int32} {x2 : Int32} 
    (h : G Θ (d + 1) 97 12 [some (.ref 114), some (.int x1), some (.int x2), some (.int ((x1 * 13) + x2)), some (.int (x1 - 1)), none] [] σ Q) :
    G Θ (d + 1) 97 0 [some (.ref 114), some (.int x1), some (.int x2), none, none, none] [] σ Q := by
  refine r_iload_n ok97 0 rfl rfl rfl ?_
  refine r_bipush (v := 13) ok97 1 rfl rfl rfl ?_
  refine r_imul ok97 2 rfl rfl ?_
  refine r_iload_n ok97 3 rfl rfl rfl ?_
  refine r_iadd ok97 4 rfl rfl ?_
  refine r_istore_n ok97 5 rfl rfl ?_
  refine r_iload_n ok97 6 rfl rfl rfl ?_
  refine r_iconst (v := 1) ok97 7 rfl rfl rfl ?_
  refine r_isub ok97 8 rfl rfl ?_
  refine r_istore ok97 9 rfl rfl ?_
  exact h

set_option maxRecDepth 100000 in
set_option maxHeartbeats 4000000 in
theorem B97_12 {Θ : Th} {d : Nat} {σ : Mem} {Q : Po} {x1 : Int32} {x2 : Int32} {x3 : Int32} {x4 : Int32} 
    (h : ((x2 ≤ x4 → Q none σ) ∧ (¬ x2 ≤ x4 → (vp_in (((x1 - 1) * 13) + x4) 169 ∧ (vp_in (((x1 - 1) * 13) + x4) 169 ∧ Cv Θ d 99 [.ref 114, .int x4, .int x2] (sL (sL σ 122 0 (σ.2.1 119 (((x1 - 1) * 13) + x4).toNatClampNeg)) 122 1 ((sL σ 122 0 (σ.2.1 119 (((x1 - 1) * 13) + x4).toNatClampNeg)).2.1 120 (((x1 - 1) * 13) + x4).toNatClampNeg)) (fun σ4 => ((x4 = (x1 - 1) → (vp_in (((x1 - 1) * 13) + x4) 169 ∧ (vp_in x4 13 ∧ Cv Θ d 98 [.ref 114, .int x3, .int ((σ4.1 121 (((x1 - 1) * 13) + x4).toNatClampNeg) ||| (σ4.1 118 x4.toNatClampNeg))] σ4 (fun σ8 => G Θ (d + 1) 97 12 [some (.ref 114), some (.int x1), some (.int x2), some (.int x3), some (.int (x4 + 1)), none] [] σ8 Q)))) ∧ (¬ x4 = (x1 - 1) → (vp_in x3 169 ∧ (vp_in x3 169 ∧ Ci Θ d 51 [.long (σ4.2.1 122 0), .long (σ4.2.1 122 1), .long (σ4.2.1 119 x3.toNatClampNeg), .long (σ4.2.1 120 x3.toNatClampNeg)] σ4 (fun v11 σ11 => ((v11 ≤ 0 → G Θ (d + 1) 97 12 [some (.ref 114), some (.int x1), some (.int x2), some (.int x3), some (.int (x4 + 1)), none] [] σ11 Q) ∧ (¬ v11 ≤ 0 → (vp_in (((x1 - 1) * 13) + x4) 169 ∧ (vp_in x4 13 ∧ Cv Θ d 98 [.ref 114, .int x3, .int ((σ11.1 121 (((x1 - 1) * 13) + x4).toNatClampNeg) ||| (σ11.1 118 x4.toNatClampNeg))] σ11 (fun σ15 => G Θ (d + 1) 97 12 [some (.ref 114), some (.int x1), some (.int x2), some (.int x3), some (.int (x4 + 1)), none] [] σ15 Q)))))))))))))))) :
    G Θ (d + 1) 97 12 [some (.ref 114), some (.int x1), some (.int x2), some (.int x3), some (.int x4), none] [] σ Q := by
  refine r_iload ok97 10 rfl rfl rfl ?_
  refine r_iload_n ok97 11 rfl rfl rfl ?_
  refine r_icmp_ge ok97 12 rfl rfl (fun c1 => ?_) (fun c1 => ?_)
  · have h1 := h.1 c1
    exact r_ret ok97 74 rfl rfl rfl h1
  · have h1 := h.2 c1
    refine r_iload_n ok97 13 rfl rfl rfl ?_
    refine r_iconst (v := 1) ok97 14 rfl rfl rfl ?_
    refine r_isub ok97 15 rfl rfl ?_
    refine r_bipush (v := 13) ok97 16 rfl rfl rfl ?_
    refine r_imul ok97 17 rfl rfl ?_
    refine r_iload ok97 18 rfl rfl rfl ?_
    refine r_iadd ok97 19 rfl rfl ?_
    refine r_istore ok97 20 rfl rfl ?_
    refine r_aload_n ok97 21 rfl rfl rfl ?_
    refine r_getF ok97 22 rfl rfl rfl rfl ?_
    refine r_aload_n ok97 23 rfl rfl rfl ?_
    refine r_getF ok97 24 rfl rfl rfl rfl ?_
    refine r_iload ok97 25 rfl rfl rfl ?_
    obtain ⟨c2, h2⟩ := h1
    refine r_lald ok97 26 rfl rfl rfl c2 ?_
    refine r_putL ok97 27 rfl rfl rfl rfl ?_
    refine r_aload_n ok97 28 rfl rfl rfl ?_
    refine r_getF ok97 29 rfl rfl rfl rfl ?_
    refine r_aload_n ok97 30 rfl rfl rfl ?_
    refine r_getF ok97 31 rfl rfl rfl rfl ?_
    refine r_iload ok97 32 rfl rfl rfl ?_
    obtain ⟨c3, h3⟩ := h2
    refine r_lald ok97 33 rfl rfl rfl c3 ?_
    refine r_putL ok97 34 rfl rfl rfl rfl ?_
    refine r_aload_n ok97 35 rfl rfl rfl ?_
    refine r_iload ok97 36 rfl rfl rfl ?_
    refine r_iload_n ok97 37 rfl rfl rfl ?_
    refine r_invVv (as := [.int x4, .int x2]) (S := []) ok97 38 rfl rfl mf99 rfl rfl (Nat.le_of_ble_eq_true rfl) rfl h3 (fun σ4 h4 => ?_)
    refine r_iload ok97 39 rfl rfl rfl ?_
    refine r_iload_n ok97 40 rfl rfl rfl ?_
    refine r_iconst (v := 1) ok97 41 rfl rfl rfl ?_
    refine r_isub ok97 42 rfl rfl ?_
    refine r_icmp_eq ok97 43 rfl rfl (fun c5 => ?_) (fun c5 => ?_)
    · have h5 := h4.1 c5
      refine r_aload_n ok97 60 rfl rfl rfl ?_
      refine r_iload_n ok97 61 rfl rfl rfl ?_
      refine r_aload_n ok97 62 rfl rfl rfl ?_
      refine r_getF ok97 63 rfl rfl rfl rfl ?_
      refine r_iload ok97 64 rfl rfl rfl ?_
      obtain ⟨c6, h6⟩ := h5
      refine r_iald ok97 65 rfl rfl rfl c6 ?_
      refine r_aload_n ok97 66 rfl rfl rfl ?_
      refine r_getF ok97 67 rfl rfl rfl rfl ?_
      refine r_iload ok97 68 rfl rfl rfl ?_
      obtain ⟨c7, h7⟩ := h6
      refine r_iald ok97 69 rfl rfl rfl c7 ?_
      refine r_ior ok97 70 rfl rfl ?_
      refine r_invVv (as := [.int x3, .int ((σ4.1 121 (((x1 - 1) * 13) + x4).toNatClampNeg) ||| (σ4.1 118 x4.toNatClampNeg))]) (S := []) ok97 71 rfl rfl mf98 rfl rfl (Nat.le_of_ble_eq_true rfl) rfl h7 (fun σ8 h8 => ?_)
      refine r_iinc (v := x4 + 1) ok97 72 rfl rfl rfl rfl ?_
      refine r_goto ok97 73 rfl rfl ?_
      exact G.weak (L' := [some (.ref 114), some (.int x1), some (.int x2), some (.int x3), some (.int (x4 + 1)), none]) ⟨rfl, ⟨rfl, ⟨rfl, ⟨rfl, ⟨rfl, trivial⟩⟩⟩⟩⟩ h8
    · have h5 := h4.2 c5
      refine r_aload_n ok97 44 rfl rfl rfl ?_
      refine r_getF ok97 45 rfl rfl rfl rfl ?_
      refine r_getL ok97 46 rfl rfl rfl rfl ?_
      refine r_aload_n ok97 47 rfl rfl rfl ?_
      refine r_getF ok97 48 rfl rfl rfl rfl ?_
      refine r_getL ok97 49 rfl rfl rfl rfl ?_
      refine r_aload_n ok97 50 rfl rfl rfl ?_
      refine r_getF ok97 51 rfl rfl rfl rfl ?_
      refine r_iload_n ok97 52 rfl rfl rfl ?_
      obtain ⟨c9, h9⟩ := h5
      refine r_lald ok97 53 rfl rfl rfl c9 ?_
      refine r_aload_n ok97 54 rfl rfl rfl ?_
      refine r_getF ok97 55 rfl rfl rfl rfl ?_
      refine r_iload_n ok97 56 rfl rfl rfl ?_
      obtain ⟨c10, h10⟩ := h9
      refine r_lald ok97 57 rfl rfl rfl c10 ?_
      refine r_invSi (as := [.long (σ4.2.1 122 0), .long (σ4.2.1 122 1), .long (σ4.2.1 119 x3.toNatClampNeg), .long (σ4.2.1 120 x3.toNatClampNeg)]) (S := []) ok97 58 rfl rfl mf51 rfl (Nat.le_of_ble_eq_true rfl) rfl h10 (fun v11 σ11 h11 => ?_)
      refine r_if_le ok97 59 rfl rfl (fun c12 => ?_) (fun c12 => ?_)
      · have h12 := h11.1 c12
        refine r_iinc (v := x4 + 1) ok97 72 rfl rfl rfl rfl ?_
        refine r_goto ok97 73 rfl rfl ?_
        exact G.weak (L' := [some (.ref 114), some (.int x1), some (.int x2), some (.int x3), some (.int (x4 + 1)), none]) ⟨rfl, ⟨rfl, ⟨rfl, ⟨rfl, ⟨rfl, trivial⟩⟩⟩⟩⟩ h12
      · have h12 := h11.2 c12
        refine r_aload_n ok97 60 rfl rfl rfl ?_
        refine r_iload_n ok97 61 rfl rfl rfl ?_
        refine r_aload_n ok97 62 rfl rfl rfl ?_
        refine r_getF ok97 63 rfl rfl rfl rfl ?_
        refine r_iload ok97 64 rfl rfl rfl ?_
        obtain ⟨c13, h13⟩ := h12
        refine r_iald ok97 65 rfl rfl rfl c13 ?_
        refine r_aload_n ok97 66 rfl rfl rfl ?_
        refine r_getF ok97 67 rfl rfl rfl rfl ?_
        refine r_iload ok97 68 rfl rfl rfl ?_
        obtain ⟨c14, h14⟩ := h13
        refine r_iald ok97 69 rfl rfl rfl c14 ?_
        refine r_ior ok97 70 rfl rfl ?_
        refine r_invVv (as := [.int x3, .int ((σ11.1 121 (((x1 - 1) * 13) + x4).toNatClampNeg) ||| (σ11.1 118 x4.toNatClampNeg))]) (S := []) ok97 71 rfl rfl mf98 rfl rfl (Nat.le_of_ble_eq_true rfl) rfl h14 (fun σ15 h15 => ?_)
        refine r_iinc (v := x4 + 1) ok97 72 rfl rfl rfl rfl ?_
        refine r_goto ok97 73 rfl rfl ?_
        exact G.weak (L' := [some (.ref 114), some (.int x1), some (.int x2), some (.int x3), some (.int (x4 + 1)), none]) ⟨rfl, ⟨rfl, ⟨rfl, ⟨rfl, ⟨rfl, trivial⟩⟩⟩⟩⟩ h15

theorem K97 {Θ : Th} {d : Nat} {σ : Mem} {Q : Po} {x1 : Int32} {x2 : Int32} (h : G Θ (d + 1) 97 0 [some (.ref 114), some (.int x1), some (.int x2), none, none, none] [] σ Q) : Cm Θ (d + 1) 97 [.ref 114, .int x1, .int x2] σ Q :=
  C_of_G okM97 (Nat.le_of_ble_eq_true rfl) rfl h

-- 98: LikeYears$Parting.store(II)V
set_option maxRecDepth 100000 in
set_option maxHeartbeats 4000000 in
theorem B98_0 {Θ : Th} {d : Nat} {σ : Mem} {Q : Po} {x1 : Int32} {x2 : Int32} 
    (h : (vp_in x1 169 ∧ (vp_in x1 169 ∧ (vp_in x1 169 ∧ Q none (sI (sL (sL σ 119 (x1.toNatClampNeg) (σ.2.1 122 0)) 120 (x1.toNatClampNeg) ((sL σ 119 (x1.toNatClampNeg) (σ.2.1 122 0)).2.1 122 1)) 121 (x1.toNatClampNeg) x2))))) :
    G Θ d 98 0 [some (.ref 114), some (.int x1), some (.int x2)] [] σ Q := by
  refine r_aload_n ok98 0 rfl rfl rfl ?_
  refine r_getF ok98 1 rfl rfl rfl rfl ?_
  refine r_iload_n ok98 2 rfl rfl rfl ?_
  refine r_aload_n ok98 3 rfl rfl rfl ?_
  refine r_getF ok98 4 rfl rfl rfl rfl ?_
  refine r_getL ok98 5 rfl rfl rfl rfl ?_
  obtain ⟨c1, h1⟩ := h
  refine r_last ok98 6 rfl rfl rfl c1 ?_
  refine r_aload_n ok98 7 rfl rfl rfl ?_
  refine r_getF ok98 8 rfl rfl rfl rfl ?_
  refine r_iload_n ok98 9 rfl rfl rfl ?_
  refine r_aload_n ok98 10 rfl rfl rfl ?_
  refine r_getF ok98 11 rfl rfl rfl rfl ?_
  refine r_getL ok98 12 rfl rfl rfl rfl ?_
  obtain ⟨c2, h2⟩ := h1
  refine r_last ok98 13 rfl rfl rfl c2 ?_
  refine r_aload_n ok98 14 rfl rfl rfl ?_
  refine r_getF ok98 15 rfl rfl rfl rfl ?_
  refine r_iload_n ok98 16 rfl rfl rfl ?_
  refine r_iload_n ok98 17 rfl rfl rfl ?_
  obtain ⟨c3, h3⟩ := h2
  refine r_iast ok98 18 rfl rfl rfl c3 ?_
  exact r_ret ok98 19 rfl rfl rfl h3

theorem K98 {Θ : Th} {d : Nat} {σ : Mem} {Q : Po} {x1 : Int32} {x2 : Int32} (h : G Θ d 98 0 [some (.ref 114), some (.int x1), some (.int x2)] [] σ Q) : Cm Θ d 98 [.ref 114, .int x1, .int x2] σ Q :=
  C_of_G okM98 (Nat.le_of_ble_eq_true rfl) rfl h

-- 99: LikeYears$Parting.addRun(II)V
set_option maxRecDepth 100000 in
set_option maxHeartbeats 4000000 in
theorem B99_0 {Θ : Th} {d : Nat} {σ : Mem} {Q : Po} {x1 : Int32} {x2 : Int32} 
    (h : G Θ (d + 1) 99 8 [some (.ref 114), none, some (.int x2), some (.long 0), none, some (.long 0), none, some (.int x1)] [] σ Q) :
    G Θ (d + 1) 99 0 [some (.ref 114), some (.int x1), some (.int x2), none, none, none, none, none] [] σ Q := by
  refine r_lconst (v := 0) ok99 0 rfl rfl rfl ?_
  refine r_lstore_n ok99 1 rfl rfl ?_
  refine r_lconst (v := 0) ok99 2 rfl rfl rfl ?_
  refine r_lstore ok99 3 rfl rfl ?_
  refine r_iload_n ok99 4 rfl rfl rfl ?_
  refine r_istore ok99 5 rfl rfl ?_
  exact G.weak (L' := [some (.ref 114), none, some (.int x2), some (.long 0), none, some (.long 0), none, some (.int x1)]) ⟨rfl, ⟨rfl, ⟨rfl, ⟨rfl, ⟨rfl, trivial⟩⟩⟩⟩⟩ h

set_option maxRecDepth 100000 in
set_option maxHeartbeats 4000000 in
theorem B99_8 {Θ : Th} {d : Nat} {σ : Mem} {Q : Po} {x2 : Int32} {x3 : Int64} {x5 : Int64} {x7 : Int32} 
    (h : ((x2 ≤ x7 → Cv Θ d 48 [.ref 122, .long (x3 * x3), .long x5] σ (fun σ2 => Q none σ2)) ∧ (¬ x2 ≤ x7 → (vp_in x7 13 ∧ (vp_in x7 13 ∧ G Θ (d + 1) 99 8 [some (.ref 114), none, some (.int x2), some (.long (x3 + ((σ.1 117 x7.toNatClampNeg).toInt64))), none, some (.long (x5 + ((σ.1 116 x7.toNatClampNeg).toInt64))), none, some (.int (x7 + 1))] [] σ Q))))) :
    G Θ (d + 1) 99 8 [some (.ref 114), none, some (.int x2), some (.long x3), none, some (.long x5), none, some (.int x7)] [] σ Q := by
  refine r_iload ok99 6 rfl rfl rfl ?_
  refine r_iload_n ok99 7 rfl rfl rfl ?_
  refine r_icmp_ge ok99 8 rfl rfl (fun c1 => ?_) (fun c1 => ?_)
  · have h1 := h.1 c1
    refine r_aload_n ok99 27 rfl rfl rfl ?_
    refine r_getF ok99 28 rfl rfl rfl rfl ?_
    refine r_lload_n ok99 29 rfl rfl rfl ?_
    refine r_lload_n ok99 30 rfl rfl rfl ?_
    refine r_lmul ok99 31 rfl rfl ?_
    refine r_lload ok99 32 rfl rfl rfl ?_
    refine r_invVv (as := [.long (x3 * x3), .long x5]) (S := []) ok99 33 rfl rfl mf48 rfl rfl (Nat.le_of_ble_eq_true rfl) rfl h1 (fun σ2 h2 => ?_)
    exact r_ret ok99 34 rfl rfl rfl h2
  · have h1 := h.2 c1
    refine r_lload_n ok99 9 rfl rfl rfl ?_
    refine r_aload_n ok99 10 rfl rfl rfl ?_
    refine r_getF ok99 11 rfl rfl rfl rfl ?_
    refine r_iload ok99 12 rfl rfl rfl ?_
    obtain ⟨c3, h3⟩ := h1
    refine r_iald ok99 13 rfl rfl rfl c3 ?_
    refine r_i2l ok99 14 rfl rfl ?_
    refine r_ladd ok99 15 rfl rfl ?_
    refine r_lstore_n ok99 16 rfl rfl ?_
    refine r_lload ok99 17 rfl rfl rfl ?_
    refine r_aload_n ok99 18 rfl rfl rfl ?_
    refine r_getF ok99 19 rfl rfl rfl rfl ?_
    refine r_iload ok99 20 rfl rfl rfl ?_
    obtain ⟨c4, h4⟩ := h3
    refine r_iald ok99 21 rfl rfl rfl c4 ?_
    refine r_i2l ok99 22 rfl rfl ?_
    refine r_ladd ok99 23 rfl rfl ?_
    refine r_lstore ok99 24 rfl rfl ?_
    refine r_iinc (v := x7 + 1) ok99 25 rfl rfl rfl rfl ?_
    refine r_goto ok99 26 rfl rfl ?_
    exact h4

theorem K99 {Θ : Th} {d : Nat} {σ : Mem} {Q : Po} {x1 : Int32} {x2 : Int32} (h : G Θ (d + 1) 99 0 [some (.ref 114), some (.int x1), some (.int x2), none, none, none, none, none] [] σ Q) : Cm Θ (d + 1) 99 [.ref 114, .int x1, .int x2] σ Q :=
  C_of_G okM99 (Nat.le_of_ble_eq_true rfl) rfl h
