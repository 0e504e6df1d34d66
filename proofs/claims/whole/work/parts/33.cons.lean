set_option maxRecDepth 100000 in
set_option maxHeartbeats 8000000 in
theorem kX5 (l : Launch) (D : va_G) (cy : Nat → ClassId) (A : Nat → Prop) (W0 : va_W) (h0 : Nat) : Met l yX5_init (.code yX5_init cX5_init 1 none :: gt) (rmc 1 0 0) (Pk D cy A [.ref h0] (W0 ++ [(h0, .inr (5, [.long 0, .long 0]))])) (Qk D A (fun w => w = W0 ++ [(h0, .inr (5, [.long 0, .long 1]))])) 0 0 A := by
  refine Met.ofW (cc := cX5_init) (maxL := 1) (ret := none) (by decide +kernel) rfl ?_
  intro p e s m args below meth c s₁ B hml hv
  obtain ⟨rfl, hK, hP, hD, hA, hN⟩ := hv
  have hx := B.exec
  have hb := B.bytes
  have hr := B.returns
  have hts0 := atoms_spec (ws := .code yX5_init cX5_init 1 none :: gt) B.pre
  have hts : ∀ w ∈ gt, w.before ([.ref h0] : List Value).toArray s = true := fun w hw => hts0 w (List.mem_cons_of_mem _ hw)
  have hown : s.vm.findClass RX5 = some m.cls := findClass_of_methodNamed B.named
  have hlocks := B.notSynchronized
  have hin : meth.name = "<init>" := (name_of_methodNamed B.named B.method).1
  have hS : va_S A s.heap s.heap [] := va_S.rf
  have hl := lv_entry ([.ref h0]) (n := 1) (Nat.le_of_ble_eq_true rfl)
  rw [lg_entry_eq]
  generalize (lg_sl ([.ref h0]) ++ List.replicate (1 - (lg_sl ([.ref h0])).length) Slot.unset).toArray = ls at hl ⊢
  have hl : lv_has ls 1 [(0, .ref h0)] := hl
  refine lv_aload_n hx hb dX5_init_0 rfl (lv_at hl 0 rfl) ?_
  refine W.objInit hx hb hown (hts _ wk328) (hts _ wk30) (hts _ wk31) rfl (by rw [hml]; exact hl.1) rfl dX5_init_1 (Nat.le_of_ble_eq_true rfl) (Nat.le_of_ble_eq_true rfl) ?_
  refine lv_aload_n hx hb dX5_init_4 rfl (lv_at hl 0 rfl) ?_
  refine lv_lconst (v := 1) hx hb dX5_init_5 (by decide) ?_
  refine z_put (ci := 5) (k := 1) (i := 0) (v := .long 1) hx hb hts hown hK hP hD hS (by decide) (by decide) rfl wk333 hin rfl rfl rfl (Nat.le_of_ble_eq_true rfl) dX5_init_6 (fun H locs hP hD hS => ?_)
  have hP : va_P D clss (W0 ++ [(h0, .inr (5, [.long 0, .long 1]))]) H := hP
  have hD : va_D A (W0 ++ [(h0, .inr (5, [.long 0, .long 1]))]) := hD
  exact W.vret hx hb hr (fun t ht hW => ⟨rfl, _, rfl, by rw [ht]; exact hP, hD, hS.F ht⟩) hS.2.2 dX5_init_9 hlocks

set_option maxRecDepth 100000 in
set_option maxHeartbeats 8000000 in
theorem kX8 (l : Launch) (D : va_G) (cy : Nat → ClassId) (A : Nat → Prop) (W0 : va_W) (h0 : Nat) : Met l yX8_init (.code yX8_init cX8_init 1 none :: gt) (rmc 1 2 32) (Pk D cy A [.ref h0] (W0 ++ [(h0, .inr (8, [.null, .null]))])) (Qk D A (fun w => ∃ q1 q2 : Nat, w = W0 ++ [(h0, .inr (8, [.ref q1, .ref q2])), (q1, .inl (cy 0, 16, .inl (fun _ => 0))), (q2, .inl (cy 0, 16, .inl (fun _ => 0)))])) 2 32 A := by
  refine Met.ofW (cc := cX8_init) (maxL := 1) (ret := none) (by decide +kernel) rfl ?_
  intro p e s m args below meth c s₁ B hml hv
  obtain ⟨rfl, hK, hP, hD, hA, hN⟩ := hv
  have hx := B.exec
  have hb := B.bytes
  have hr := B.returns
  have hts0 := atoms_spec (ws := .code yX8_init cX8_init 1 none :: gt) B.pre
  have hts : ∀ w ∈ gt, w.before ([.ref h0] : List Value).toArray s = true := fun w hw => hts0 w (List.mem_cons_of_mem _ hw)
  have hown : s.vm.findClass RX8 = some m.cls := findClass_of_methodNamed B.named
  have hlocks := B.notSynchronized
  have hin : meth.name = "<init>" := (name_of_methodNamed B.named B.method).1
  have hS : va_S A s.heap s.heap [] := va_S.rf
  have hl := lv_entry ([.ref h0]) (n := 1) (Nat.le_of_ble_eq_true rfl)
  rw [lg_entry_eq]
  generalize (lg_sl ([.ref h0]) ++ List.replicate (1 - (lg_sl ([.ref h0])).length) Slot.unset).toArray = ls at hl ⊢
  have hl : lv_has ls 1 [(0, .ref h0)] := hl
  refine lv_aload_n hx hb dX8_init_0 rfl (lv_at hl 0 rfl) ?_
  refine W.objInit hx hb hown (hts _ wk93) (hts _ wk30) (hts _ wk31) rfl (by rw [hml]; exact hl.1) rfl dX8_init_1 (Nat.le_of_ble_eq_true rfl) (Nat.le_of_ble_eq_true rfl) ?_
  refine lv_aload_n hx hb dX8_init_4 rfl (lv_at hl 0 rfl) ?_
  refine lv_bipush (v := 16) hx hb dX8_init_5 (by decide) ?_
  refine z_newa (atype := .int) (ty := .int) (t0 := 0) (a0 := (16, .inl (fun _ => 0))) hx hb hts wk86 rfl rfl (fun C h => by cases h) hK hP hD hS hA (fun _ => rfl) (by decide) rfl (by decide) (Nat.le_of_ble_eq_true rfl) (Nat.le_of_ble_eq_true rfl) dX8_init_7 (fun q1 H hP hD hS => ?_)
  have hP : va_P D clss (W0 ++ [(h0, .inr (8, [.null, .null])), (q1, .inl (cy 0, 16, .inl (fun _ => 0)))]) H := hP
  have hD : va_D A (W0 ++ [(h0, .inr (8, [.null, .null])), (q1, .inl (cy 0, 16, .inl (fun _ => 0)))]) := hD
  refine z_put (ci := 8) (k := 0) (i := 0) (v := .ref q1) hx hb hts hown hK hP hD hS (by decide) (by decide) rfl wk94 hin rfl rfl rfl (Nat.le_of_ble_eq_true rfl) dX8_init_9 (fun H locs hP hD hS => ?_)
  have hP : va_P D clss (W0 ++ [(h0, .inr (8, [.ref q1, .null])), (q1, .inl (cy 0, 16, .inl (fun _ => 0)))]) H := hP
  have hD : va_D A (W0 ++ [(h0, .inr (8, [.ref q1, .null])), (q1, .inl (cy 0, 16, .inl (fun _ => 0)))]) := hD
  refine lv_aload_n hx hb dX8_init_12 rfl (lv_at hl 0 rfl) ?_
  refine lv_bipush (v := 16) hx hb dX8_init_13 (by decide) ?_
  refine z_newa (atype := .int) (ty := .int) (t0 := 0) (a0 := (16, .inl (fun _ => 0))) hx hb hts wk86 rfl rfl (fun C h => by cases h) hK hP hD hS hA (fun _ => rfl) (by decide) rfl (by decide) (Nat.le_of_ble_eq_true rfl) (Nat.le_of_ble_eq_true rfl) dX8_init_15 (fun q2 H hP hD hS => ?_)
  have hP : va_P D clss (W0 ++ [(h0, .inr (8, [.ref q1, .null])), (q1, .inl (cy 0, 16, .inl (fun _ => 0))), (q2, .inl (cy 0, 16, .inl (fun _ => 0)))]) H := hP
  have hD : va_D A (W0 ++ [(h0, .inr (8, [.ref q1, .null])), (q1, .inl (cy 0, 16, .inl (fun _ => 0))), (q2, .inl (cy 0, 16, .inl (fun _ => 0)))]) := hD
  refine z_put (ci := 8) (k := 1) (i := 0) (v := .ref q2) hx hb hts hown hK hP hD hS (by decide) (by decide) rfl wk95 hin rfl rfl rfl (Nat.le_of_ble_eq_true rfl) dX8_init_17 (fun H locs hP hD hS => ?_)
  have hP : va_P D clss (W0 ++ [(h0, .inr (8, [.ref q1, .ref q2])), (q1, .inl (cy 0, 16, .inl (fun _ => 0))), (q2, .inl (cy 0, 16, .inl (fun _ => 0)))]) H := hP
  have hD : va_D A (W0 ++ [(h0, .inr (8, [.ref q1, .ref q2])), (q1, .inl (cy 0, 16, .inl (fun _ => 0))), (q2, .inl (cy 0, 16, .inl (fun _ => 0)))]) := hD
  exact W.vret hx hb hr (fun t ht hW => ⟨rfl, _, ⟨q1, q2, rfl⟩, by rw [ht]; exact hP, hD, hS.F ht⟩) hS.2.2 dX8_init_20 hlocks

set_option maxRecDepth 100000 in
set_option maxHeartbeats 8000000 in
theorem kX10 (l : Launch) (D : va_G) (cy : Nat → ClassId) (A : Nat → Prop) (W0 : va_W) (h0 : Nat) : Met l yX10_init (.code yX10_init cX10_init 1 none :: gt) (rmc 1 4 5203) (Pk D cy A [.ref h0] (W0 ++ [(h0, .inr (10, [.int 0, .int 0, .int 0, .int 0, .int 0, .long 0, .null, .null, .null, .null, .int 0, .int 0]))])) (Qk D A (fun w => ∃ q1 q2 q3 q4 : Nat, w = W0 ++ [(h0, .inr (10, [.int 0, .int 0, .int (-1), .int 0, .int 0, .long 0, .ref q1, .ref q2, .ref q3, .ref q4, .int 0, .int 0])), (q1, .inl (cy 2, 1300, .inl (fun _ => 0))), (q2, .inl (cy 0, 1301, .inl (fun _ => 0))), (q3, .inl (cy 0, 1301, .inl (fun _ => 0))), (q4, .inl (cy 1, 1301, .inr (.inl (fun _ => 0))))])) 4 5203 A := by
  refine Met.ofW (cc := cX10_init) (maxL := 1) (ret := none) (by decide +kernel) rfl ?_
  intro p e s m args below meth c s₁ B hml hv
  obtain ⟨rfl, hK, hP, hD, hA, hN⟩ := hv
  have hx := B.exec
  have hb := B.bytes
  have hr := B.returns
  have hts0 := atoms_spec (ws := .code yX10_init cX10_init 1 none :: gt) B.pre
  have hts : ∀ w ∈ gt, w.before ([.ref h0] : List Value).toArray s = true := fun w hw => hts0 w (List.mem_cons_of_mem _ hw)
  have hown : s.vm.findClass RX10 = some m.cls := findClass_of_methodNamed B.named
  have hlocks := B.notSynchronized
  have hin : meth.name = "<init>" := (name_of_methodNamed B.named B.method).1
  have hS : va_S A s.heap s.heap [] := va_S.rf
  have hl := lv_entry ([.ref h0]) (n := 1) (Nat.le_of_ble_eq_true rfl)
  rw [lg_entry_eq]
  generalize (lg_sl ([.ref h0]) ++ List.replicate (1 - (lg_sl ([.ref h0])).length) Slot.unset).toArray = ls at hl ⊢
  have hl : lv_has ls 1 [(0, .ref h0)] := hl
  refine lv_aload_n hx hb dX10_init_0 rfl (lv_at hl 0 rfl) ?_
  refine W.objInit hx hb hown (hts _ wk37) (hts _ wk30) (hts _ wk31) rfl (by rw [hml]; exact hl.1) rfl dX10_init_1 (Nat.le_of_ble_eq_true rfl) (Nat.le_of_ble_eq_true rfl) ?_
  refine lv_aload_n hx hb dX10_init_4 rfl (lv_at hl 0 rfl) ?_
  refine lv_iconst (v := (-1)) hx hb dX10_init_5 (by decide) ?_
  refine z_put (ci := 10) (k := 2) (i := 0) (v := .int (-1)) hx hb hts hown hK hP hD hS (by decide) (by decide) rfl wk43 hin rfl rfl rfl (Nat.le_of_ble_eq_true rfl) dX10_init_6 (fun H locs hP hD hS => ?_)
  have hP : va_P D clss (W0 ++ [(h0, .inr (10, [.int 0, .int 0, .int (-1), .int 0, .int 0, .long 0, .null, .null, .null, .null, .int 0, .int 0]))]) H := hP
  have hD : va_D A (W0 ++ [(h0, .inr (10, [.int 0, .int 0, .int (-1), .int 0, .int 0, .long 0, .null, .null, .null, .null, .int 0, .int 0]))]) := hD
  refine lv_aload_n hx hb dX10_init_9 rfl (lv_at hl 0 rfl) ?_
  refine lv_sipush (v := 1300) hx hb dX10_init_10 (by decide) ?_
  refine z_newa (atype := .byte) (ty := .byte) (t0 := 2) (a0 := (1300, .inl (fun _ => 0))) hx hb hts wk85 rfl rfl (fun C h => by cases h) hK hP hD hS hA (fun _ => rfl) (by decide) rfl (by decide) (Nat.le_of_ble_eq_true rfl) (Nat.le_of_ble_eq_true rfl) dX10_init_13 (fun q1 H hP hD hS => ?_)
  have hP : va_P D clss (W0 ++ [(h0, .inr (10, [.int 0, .int 0, .int (-1), .int 0, .int 0, .long 0, .null, .null, .null, .null, .int 0, .int 0])), (q1, .inl (cy 2, 1300, .inl (fun _ => 0)))]) H := hP
  have hD : va_D A (W0 ++ [(h0, .inr (10, [.int 0, .int 0, .int (-1), .int 0, .int 0, .long 0, .null, .null, .null, .null, .int 0, .int 0])), (q1, .inl (cy 2, 1300, .inl (fun _ => 0)))]) := hD
  refine z_put (ci := 10) (k := 6) (i := 0) (v := .ref q1) hx hb hts hown hK hP hD hS (by decide) (by decide) rfl wk54 hin rfl rfl rfl (Nat.le_of_ble_eq_true rfl) dX10_init_15 (fun H locs hP hD hS => ?_)
  have hP : va_P D clss (W0 ++ [(h0, .inr (10, [.int 0, .int 0, .int (-1), .int 0, .int 0, .long 0, .ref q1, .null, .null, .null, .int 0, .int 0])), (q1, .inl (cy 2, 1300, .inl (fun _ => 0)))]) H := hP
  have hD : va_D A (W0 ++ [(h0, .inr (10, [.int 0, .int 0, .int (-1), .int 0, .int 0, .long 0, .ref q1, .null, .null, .null, .int 0, .int 0])), (q1, .inl (cy 2, 1300, .inl (fun _ => 0)))]) := hD
  refine lv_aload_n hx hb dX10_init_18 rfl (lv_at hl 0 rfl) ?_
  refine lv_sipush (v := 1301) hx hb dX10_init_19 (by decide) ?_
  refine z_newa (atype := .int) (ty := .int) (t0 := 0) (a0 := (1301, .inl (fun _ => 0))) hx hb hts wk86 rfl rfl (fun C h => by cases h) hK hP hD hS hA (fun _ => rfl) (by decide) rfl (by decide) (Nat.le_of_ble_eq_true rfl) (Nat.le_of_ble_eq_true rfl) dX10_init_22 (fun q2 H hP hD hS => ?_)
  have hP : va_P D clss (W0 ++ [(h0, .inr (10, [.int 0, .int 0, .int (-1), .int 0, .int 0, .long 0, .ref q1, .null, .null, .null, .int 0, .int 0])), (q1, .inl (cy 2, 1300, .inl (fun _ => 0))), (q2, .inl (cy 0, 1301, .inl (fun _ => 0)))]) H := hP
  have hD : va_D A (W0 ++ [(h0, .inr (10, [.int 0, .int 0, .int (-1), .int 0, .int 0, .long 0, .ref q1, .null, .null, .null, .int 0, .int 0])), (q1, .inl (cy 2, 1300, .inl (fun _ => 0))), (q2, .inl (cy 0, 1301, .inl (fun _ => 0)))]) := hD
  refine z_put (ci := 10) (k := 7) (i := 0) (v := .ref q2) hx hb hts hown hK hP hD hS (by decide) (by decide) rfl wk55 hin rfl rfl rfl (Nat.le_of_ble_eq_true rfl) dX10_init_24 (fun H locs hP hD hS => ?_)
  have hP : va_P D clss (W0 ++ [(h0, .inr (10, [.int 0, .int 0, .int (-1), .int 0, .int 0, .long 0, .ref q1, .ref q2, .null, .null, .int 0, .int 0])), (q1, .inl (cy 2, 1300, .inl (fun _ => 0))), (q2, .inl (cy 0, 1301, .inl (fun _ => 0)))]) H := hP
  have hD : va_D A (W0 ++ [(h0, .inr (10, [.int 0, .int 0, .int (-1), .int 0, .int 0, .long 0, .ref q1, .ref q2, .null, .null, .int 0, .int 0])), (q1, .inl (cy 2, 1300, .inl (fun _ => 0))), (q2, .inl (cy 0, 1301, .inl (fun _ => 0)))]) := hD
  refine lv_aload_n hx hb dX10_init_27 rfl (lv_at hl 0 rfl) ?_
  refine lv_sipush (v := 1301) hx hb dX10_init_28 (by decide) ?_
  refine z_newa (atype := .int) (ty := .int) (t0 := 0) (a0 := (1301, .inl (fun _ => 0))) hx hb hts wk86 rfl rfl (fun C h => by cases h) hK hP hD hS hA (fun _ => rfl) (by decide) rfl (by decide) (Nat.le_of_ble_eq_true rfl) (Nat.le_of_ble_eq_true rfl) dX10_init_31 (fun q3 H hP hD hS => ?_)
  have hP : va_P D clss (W0 ++ [(h0, .inr (10, [.int 0, .int 0, .int (-1), .int 0, .int 0, .long 0, .ref q1, .ref q2, .null, .null, .int 0, .int 0])), (q1, .inl (cy 2, 1300, .inl (fun _ => 0))), (q2, .inl (cy 0, 1301, .inl (fun _ => 0))), (q3, .inl (cy 0, 1301, .inl (fun _ => 0)))]) H := hP
  have hD : va_D A (W0 ++ [(h0, .inr (10, [.int 0, .int 0, .int (-1), .int 0, .int 0, .long 0, .ref q1, .ref q2, .null, .null, .int 0, .int 0])), (q1, .inl (cy 2, 1300, .inl (fun _ => 0))), (q2, .inl (cy 0, 1301, .inl (fun _ => 0))), (q3, .inl (cy 0, 1301, .inl (fun _ => 0)))]) := hD
  refine z_put (ci := 10) (k := 8) (i := 0) (v := .ref q3) hx hb hts hown hK hP hD hS (by decide) (by decide) rfl wk56 hin rfl rfl rfl (Nat.le_of_ble_eq_true rfl) dX10_init_33 (fun H locs hP hD hS => ?_)
  have hP : va_P D clss (W0 ++ [(h0, .inr (10, [.int 0, .int 0, .int (-1), .int 0, .int 0, .long 0, .ref q1, .ref q2, .ref q3, .null, .int 0, .int 0])), (q1, .inl (cy 2, 1300, .inl (fun _ => 0))), (q2, .inl (cy 0, 1301, .inl (fun _ => 0))), (q3, .inl (cy 0, 1301, .inl (fun _ => 0)))]) H := hP
  have hD : va_D A (W0 ++ [(h0, .inr (10, [.int 0, .int 0, .int (-1), .int 0, .int 0, .long 0, .ref q1, .ref q2, .ref q3, .null, .int 0, .int 0])), (q1, .inl (cy 2, 1300, .inl (fun _ => 0))), (q2, .inl (cy 0, 1301, .inl (fun _ => 0))), (q3, .inl (cy 0, 1301, .inl (fun _ => 0)))]) := hD
  refine lv_aload_n hx hb dX10_init_36 rfl (lv_at hl 0 rfl) ?_
  refine lv_sipush (v := 1301) hx hb dX10_init_37 (by decide) ?_
  refine z_newa (atype := .long) (ty := .long) (t0 := 1) (a0 := (1301, .inr (.inl (fun _ => 0)))) hx hb hts wk87 rfl rfl (fun C h => by cases h) hK hP hD hS hA (fun _ => rfl) (by decide) rfl (by decide) (Nat.le_of_ble_eq_true rfl) (Nat.le_of_ble_eq_true rfl) dX10_init_40 (fun q4 H hP hD hS => ?_)
  have hP : va_P D clss (W0 ++ [(h0, .inr (10, [.int 0, .int 0, .int (-1), .int 0, .int 0, .long 0, .ref q1, .ref q2, .ref q3, .null, .int 0, .int 0])), (q1, .inl (cy 2, 1300, .inl (fun _ => 0))), (q2, .inl (cy 0, 1301, .inl (fun _ => 0))), (q3, .inl (cy 0, 1301, .inl (fun _ => 0))), (q4, .inl (cy 1, 1301, .inr (.inl (fun _ => 0))))]) H := hP
  have hD : va_D A (W0 ++ [(h0, .inr (10, [.int 0, .int 0, .int (-1), .int 0, .int 0, .long 0, .ref q1, .ref q2, .ref q3, .null, .int 0, .int 0])), (q1, .inl (cy 2, 1300, .inl (fun _ => 0))), (q2, .inl (cy 0, 1301, .inl (fun _ => 0))), (q3, .inl (cy 0, 1301, .inl (fun _ => 0))), (q4, .inl (cy 1, 1301, .inr (.inl (fun _ => 0))))]) := hD
  refine z_put (ci := 10) (k := 9) (i := 0) (v := .ref q4) hx hb hts hown hK hP hD hS (by decide) (by decide) rfl wk57 hin rfl rfl rfl (Nat.le_of_ble_eq_true rfl) dX10_init_42 (fun H locs hP hD hS => ?_)
  have hP : va_P D clss (W0 ++ [(h0, .inr (10, [.int 0, .int 0, .int (-1), .int 0, .int 0, .long 0, .ref q1, .ref q2, .ref q3, .ref q4, .int 0, .int 0])), (q1, .inl (cy 2, 1300, .inl (fun _ => 0))), (q2, .inl (cy 0, 1301, .inl (fun _ => 0))), (q3, .inl (cy 0, 1301, .inl (fun _ => 0))), (q4, .inl (cy 1, 1301, .inr (.inl (fun _ => 0))))]) H := hP
  have hD : va_D A (W0 ++ [(h0, .inr (10, [.int 0, .int 0, .int (-1), .int 0, .int 0, .long 0, .ref q1, .ref q2, .ref q3, .ref q4, .int 0, .int 0])), (q1, .inl (cy 2, 1300, .inl (fun _ => 0))), (q2, .inl (cy 0, 1301, .inl (fun _ => 0))), (q3, .inl (cy 0, 1301, .inl (fun _ => 0))), (q4, .inl (cy 1, 1301, .inr (.inl (fun _ => 0))))]) := hD
  exact W.vret hx hb hr (fun t ht hW => ⟨rfl, _, ⟨q1, q2, q3, q4, rfl⟩, by rw [ht]; exact hP, hD, hS.F ht⟩) hS.2.2 dX10_init_45 hlocks

set_option maxRecDepth 100000 in
set_option maxHeartbeats 8000000 in
theorem kX1 (l : Launch) (D : va_G) (cy : Nat → ClassId) (A : Nat → Prop) (W0 : va_W) (h0 : Nat) : Met l yX1_init (.code yX1_init cX1_init 1 none :: gt) (rmc 1 9 218) (Pk D cy A [.ref h0] (W0 ++ [(h0, .inr (1, [.int 0, .null, .null, .int 0, .int 0, .null, .null, .null, .null, .null, .int 0, .null, .null]))])) (Qk D A (fun w => ∃ q1 q2 q3 q4 q5 q6 q7 q8 q9 : Nat, w = W0 ++ [(h0, .inr (1, [.int 0, .ref q1, .ref q2, .int 0, .int 0, .ref q3, .ref q4, .ref q5, .ref q6, .ref q7, .int 0, .ref q8, .ref q9])), (q1, .inl (cy 1, 6, .inr (.inl (fun _ => 0)))), (q2, .inl (cy 0, 6, .inl (fun _ => 0))), (q3, .inl (cy 0, 16, .inl (fun _ => 0))), (q4, .inl (cy 0, 16, .inl (fun _ => 0))), (q5, .inl (cy 0, 16, .inl (fun _ => 0))), (q6, .inl (cy 0, 16, .inl (fun _ => 0))), (q7, .inl (cy 0, 102, .inl (fun _ => 0))), (q8, .inl (cy 0, 20, .inl (fun _ => 0))), (q9, .inl (cy 0, 20, .inl (fun _ => 0)))])) 9 218 A := by
  refine Met.ofW (cc := cX1_init) (maxL := 1) (ret := none) (by decide +kernel) rfl ?_
  intro p e s m args below meth c s₁ B hml hv
  obtain ⟨rfl, hK, hP, hD, hA, hN⟩ := hv
  have hx := B.exec
  have hb := B.bytes
  have hr := B.returns
  have hts0 := atoms_spec (ws := .code yX1_init cX1_init 1 none :: gt) B.pre
  have hts : ∀ w ∈ gt, w.before ([.ref h0] : List Value).toArray s = true := fun w hw => hts0 w (List.mem_cons_of_mem _ hw)
  have hown : s.vm.findClass RX1 = some m.cls := findClass_of_methodNamed B.named
  have hlocks := B.notSynchronized
  have hin : meth.name = "<init>" := (name_of_methodNamed B.named B.method).1
  have hS : va_S A s.heap s.heap [] := va_S.rf
  have hl := lv_entry ([.ref h0]) (n := 1) (Nat.le_of_ble_eq_true rfl)
  rw [lg_entry_eq]
  generalize (lg_sl ([.ref h0]) ++ List.replicate (1 - (lg_sl ([.ref h0])).length) Slot.unset).toArray = ls at hl ⊢
  have hl : lv_has ls 1 [(0, .ref h0)] := hl
  refine lv_aload_n hx hb dX1_init_0 rfl (lv_at hl 0 rfl) ?_
  refine W.objInit hx hb hown (hts _ wk133) (hts _ wk30) (hts _ wk31) rfl (by rw [hml]; exact hl.1) rfl dX1_init_1 (Nat.le_of_ble_eq_true rfl) (Nat.le_of_ble_eq_true rfl) ?_
  refine lv_aload_n hx hb dX1_init_4 rfl (lv_at hl 0 rfl) ?_
  refine lv_bipush (v := 6) hx hb dX1_init_5 (by decide) ?_
  refine z_newa (atype := .long) (ty := .long) (t0 := 1) (a0 := (6, .inr (.inl (fun _ => 0)))) hx hb hts wk87 rfl rfl (fun C h => by cases h) hK hP hD hS hA (fun _ => rfl) (by decide) rfl (by decide) (Nat.le_of_ble_eq_true rfl) (Nat.le_of_ble_eq_true rfl) dX1_init_7 (fun q1 H hP hD hS => ?_)
  have hP : va_P D clss (W0 ++ [(h0, .inr (1, [.int 0, .null, .null, .int 0, .int 0, .null, .null, .null, .null, .null, .int 0, .null, .null])), (q1, .inl (cy 1, 6, .inr (.inl (fun _ => 0))))]) H := hP
  have hD : va_D A (W0 ++ [(h0, .inr (1, [.int 0, .null, .null, .int 0, .int 0, .null, .null, .null, .null, .null, .int 0, .null, .null])), (q1, .inl (cy 1, 6, .inr (.inl (fun _ => 0))))]) := hD
  refine z_put (ci := 1) (k := 1) (i := 0) (v := .ref q1) hx hb hts hown hK hP hD hS (by decide) (by decide) rfl wk137 hin rfl rfl rfl (Nat.le_of_ble_eq_true rfl) dX1_init_9 (fun H locs hP hD hS => ?_)
  have hP : va_P D clss (W0 ++ [(h0, .inr (1, [.int 0, .ref q1, .null, .int 0, .int 0, .null, .null, .null, .null, .null, .int 0, .null, .null])), (q1, .inl (cy 1, 6, .inr (.inl (fun _ => 0))))]) H := hP
  have hD : va_D A (W0 ++ [(h0, .inr (1, [.int 0, .ref q1, .null, .int 0, .int 0, .null, .null, .null, .null, .null, .int 0, .null, .null])), (q1, .inl (cy 1, 6, .inr (.inl (fun _ => 0))))]) := hD
  refine lv_aload_n hx hb dX1_init_12 rfl (lv_at hl 0 rfl) ?_
  refine lv_bipush (v := 6) hx hb dX1_init_13 (by decide) ?_
  refine z_newa (atype := .int) (ty := .int) (t0 := 0) (a0 := (6, .inl (fun _ => 0))) hx hb hts wk86 rfl rfl (fun C h => by cases h) hK hP hD hS hA (fun _ => rfl) (by decide) rfl (by decide) (Nat.le_of_ble_eq_true rfl) (Nat.le_of_ble_eq_true rfl) dX1_init_15 (fun q2 H hP hD hS => ?_)
  have hP : va_P D clss (W0 ++ [(h0, .inr (1, [.int 0, .ref q1, .null, .int 0, .int 0, .null, .null, .null, .null, .null, .int 0, .null, .null])), (q1, .inl (cy 1, 6, .inr (.inl (fun _ => 0)))), (q2, .inl (cy 0, 6, .inl (fun _ => 0)))]) H := hP
  have hD : va_D A (W0 ++ [(h0, .inr (1, [.int 0, .ref q1, .null, .int 0, .int 0, .null, .null, .null, .null, .null, .int 0, .null, .null])), (q1, .inl (cy 1, 6, .inr (.inl (fun _ => 0)))), (q2, .inl (cy 0, 6, .inl (fun _ => 0)))]) := hD
  refine z_put (ci := 1) (k := 2) (i := 0) (v := .ref q2) hx hb hts hown hK hP hD hS (by decide) (by decide) rfl wk138 hin rfl rfl rfl (Nat.le_of_ble_eq_true rfl) dX1_init_17 (fun H locs hP hD hS => ?_)
  have hP : va_P D clss (W0 ++ [(h0, .inr (1, [.int 0, .ref q1, .ref q2, .int 0, .int 0, .null, .null, .null, .null, .null, .int 0, .null, .null])), (q1, .inl (cy 1, 6, .inr (.inl (fun _ => 0)))), (q2, .inl (cy 0, 6, .inl (fun _ => 0)))]) H := hP
  have hD : va_D A (W0 ++ [(h0, .inr (1, [.int 0, .ref q1, .ref q2, .int 0, .int 0, .null, .null, .null, .null, .null, .int 0, .null, .null])), (q1, .inl (cy 1, 6, .inr (.inl (fun _ => 0)))), (q2, .inl (cy 0, 6, .inl (fun _ => 0)))]) := hD
  refine lv_aload_n hx hb dX1_init_20 rfl (lv_at hl 0 rfl) ?_
  refine lv_bipush (v := 16) hx hb dX1_init_21 (by decide) ?_
  refine z_newa (atype := .int) (ty := .int) (t0 := 0) (a0 := (16, .inl (fun _ => 0))) hx hb hts wk86 rfl rfl (fun C h => by cases h) hK hP hD hS hA (fun _ => rfl) (by decide) rfl (by decide) (Nat.le_of_ble_eq_true rfl) (Nat.le_of_ble_eq_true rfl) dX1_init_23 (fun q3 H hP hD hS => ?_)
  have hP : va_P D clss (W0 ++ [(h0, .inr (1, [.int 0, .ref q1, .ref q2, .int 0, .int 0, .null, .null, .null, .null, .null, .int 0, .null, .null])), (q1, .inl (cy 1, 6, .inr (.inl (fun _ => 0)))), (q2, .inl (cy 0, 6, .inl (fun _ => 0))), (q3, .inl (cy 0, 16, .inl (fun _ => 0)))]) H := hP
  have hD : va_D A (W0 ++ [(h0, .inr (1, [.int 0, .ref q1, .ref q2, .int 0, .int 0, .null, .null, .null, .null, .null, .int 0, .null, .null])), (q1, .inl (cy 1, 6, .inr (.inl (fun _ => 0)))), (q2, .inl (cy 0, 6, .inl (fun _ => 0))), (q3, .inl (cy 0, 16, .inl (fun _ => 0)))]) := hD
  refine z_put (ci := 1) (k := 5) (i := 0) (v := .ref q3) hx hb hts hown hK hP hD hS (by decide) (by decide) rfl wk153 hin rfl rfl rfl (Nat.le_of_ble_eq_true rfl) dX1_init_25 (fun H locs hP hD hS => ?_)
  have hP : va_P D clss (W0 ++ [(h0, .inr (1, [.int 0, .ref q1, .ref q2, .int 0, .int 0, .ref q3, .null, .null, .null, .null, .int 0, .null, .null])), (q1, .inl (cy 1, 6, .inr (.inl (fun _ => 0)))), (q2, .inl (cy 0, 6, .inl (fun _ => 0))), (q3, .inl (cy 0, 16, .inl (fun _ => 0)))]) H := hP
  have hD : va_D A (W0 ++ [(h0, .inr (1, [.int 0, .ref q1, .ref q2, .int 0, .int 0, .ref q3, .null, .null, .null, .null, .int 0, .null, .null])), (q1, .inl (cy 1, 6, .inr (.inl (fun _ => 0)))), (q2, .inl (cy 0, 6, .inl (fun _ => 0))), (q3, .inl (cy 0, 16, .inl (fun _ => 0)))]) := hD
  refine lv_aload_n hx hb dX1_init_28 rfl (lv_at hl 0 rfl) ?_
  refine lv_bipush (v := 16) hx hb dX1_init_29 (by decide) ?_
  refine z_newa (atype := .int) (ty := .int) (t0 := 0) (a0 := (16, .inl (fun _ => 0))) hx hb hts wk86 rfl rfl (fun C h => by cases h) hK hP hD hS hA (fun _ => rfl) (by decide) rfl (by decide) (Nat.le_of_ble_eq_true rfl) (Nat.le_of_ble_eq_true rfl) dX1_init_31 (fun q4 H hP hD hS => ?_)
  have hP : va_P D clss (W0 ++ [(h0, .inr (1, [.int 0, .ref q1, .ref q2, .int 0, .int 0, .ref q3, .null, .null, .null, .null, .int 0, .null, .null])), (q1, .inl (cy 1, 6, .inr (.inl (fun _ => 0)))), (q2, .inl (cy 0, 6, .inl (fun _ => 0))), (q3, .inl (cy 0, 16, .inl (fun _ => 0))), (q4, .inl (cy 0, 16, .inl (fun _ => 0)))]) H := hP
  have hD : va_D A (W0 ++ [(h0, .inr (1, [.int 0, .ref q1, .ref q2, .int 0, .int 0, .ref q3, .null, .null, .null, .null, .int 0, .null, .null])), (q1, .inl (cy 1, 6, .inr (.inl (fun _ => 0)))), (q2, .inl (cy 0, 6, .inl (fun _ => 0))), (q3, .inl (cy 0, 16, .inl (fun _ => 0))), (q4, .inl (cy 0, 16, .inl (fun _ => 0)))]) := hD
  refine z_put (ci := 1) (k := 6) (i := 0) (v := .ref q4) hx hb hts hown hK hP hD hS (by decide) (by decide) rfl wk156 hin rfl rfl rfl (Nat.le_of_ble_eq_true rfl) dX1_init_33 (fun H locs hP hD hS => ?_)
  have hP : va_P D clss (W0 ++ [(h0, .inr (1, [.int 0, .ref q1, .ref q2, .int 0, .int 0, .ref q3, .ref q4, .null, .null, .null, .int 0, .null, .null])), (q1, .inl (cy 1, 6, .inr (.inl (fun _ => 0)))), (q2, .inl (cy 0, 6, .inl (fun _ => 0))), (q3, .inl (cy 0, 16, .inl (fun _ => 0))), (q4, .inl (cy 0, 16, .inl (fun _ => 0)))]) H := hP
  have hD : va_D A (W0 ++ [(h0, .inr (1, [.int 0, .ref q1, .ref q2, .int 0, .int 0, .ref q3, .ref q4, .null, .null, .null, .int 0, .null, .null])), (q1, .inl (cy 1, 6, .inr (.inl (fun _ => 0)))), (q2, .inl (cy 0, 6, .inl (fun _ => 0))), (q3, .inl (cy 0, 16, .inl (fun _ => 0))), (q4, .inl (cy 0, 16, .inl (fun _ => 0)))]) := hD
  refine lv_aload_n hx hb dX1_init_36 rfl (lv_at hl 0 rfl) ?_
  refine lv_bipush (v := 16) hx hb dX1_init_37 (by decide) ?_
  refine z_newa (atype := .int) (ty := .int) (t0 := 0) (a0 := (16, .inl (fun _ => 0))) hx hb hts wk86 rfl rfl (fun C h => by cases h) hK hP hD hS hA (fun _ => rfl) (by decide) rfl (by decide) (Nat.le_of_ble_eq_true rfl) (Nat.le_of_ble_eq_true rfl) dX1_init_39 (fun q5 H hP hD hS => ?_)
  have hP : va_P D clss (W0 ++ [(h0, .inr (1, [.int 0, .ref q1, .ref q2, .int 0, .int 0, .ref q3, .ref q4, .null, .null, .null, .int 0, .null, .null])), (q1, .inl (cy 1, 6, .inr (.inl (fun _ => 0)))), (q2, .inl (cy 0, 6, .inl (fun _ => 0))), (q3, .inl (cy 0, 16, .inl (fun _ => 0))), (q4, .inl (cy 0, 16, .inl (fun _ => 0))), (q5, .inl (cy 0, 16, .inl (fun _ => 0)))]) H := hP
  have hD : va_D A (W0 ++ [(h0, .inr (1, [.int 0, .ref q1, .ref q2, .int 0, .int 0, .ref q3, .ref q4, .null, .null, .null, .int 0, .null, .null])), (q1, .inl (cy 1, 6, .inr (.inl (fun _ => 0)))), (q2, .inl (cy 0, 6, .inl (fun _ => 0))), (q3, .inl (cy 0, 16, .inl (fun _ => 0))), (q4, .inl (cy 0, 16, .inl (fun _ => 0))), (q5, .inl (cy 0, 16, .inl (fun _ => 0)))]) := hD
  refine z_put (ci := 1) (k := 7) (i := 0) (v := .ref q5) hx hb hts hown hK hP hD hS (by decide) (by decide) rfl wk160 hin rfl rfl rfl (Nat.le_of_ble_eq_true rfl) dX1_init_41 (fun H locs hP hD hS => ?_)
  have hP : va_P D clss (W0 ++ [(h0, .inr (1, [.int 0, .ref q1, .ref q2, .int 0, .int 0, .ref q3, .ref q4, .ref q5, .null, .null, .int 0, .null, .null])), (q1, .inl (cy 1, 6, .inr (.inl (fun _ => 0)))), (q2, .inl (cy 0, 6, .inl (fun _ => 0))), (q3, .inl (cy 0, 16, .inl (fun _ => 0))), (q4, .inl (cy 0, 16, .inl (fun _ => 0))), (q5, .inl (cy 0, 16, .inl (fun _ => 0)))]) H := hP
  have hD : va_D A (W0 ++ [(h0, .inr (1, [.int 0, .ref q1, .ref q2, .int 0, .int 0, .ref q3, .ref q4, .ref q5, .null, .null, .int 0, .null, .null])), (q1, .inl (cy 1, 6, .inr (.inl (fun _ => 0)))), (q2, .inl (cy 0, 6, .inl (fun _ => 0))), (q3, .inl (cy 0, 16, .inl (fun _ => 0))), (q4, .inl (cy 0, 16, .inl (fun _ => 0))), (q5, .inl (cy 0, 16, .inl (fun _ => 0)))]) := hD
  refine lv_aload_n hx hb dX1_init_44 rfl (lv_at hl 0 rfl) ?_
  refine lv_bipush (v := 16) hx hb dX1_init_45 (by decide) ?_
  refine z_newa (atype := .int) (ty := .int) (t0 := 0) (a0 := (16, .inl (fun _ => 0))) hx hb hts wk86 rfl rfl (fun C h => by cases h) hK hP hD hS hA (fun _ => rfl) (by decide) rfl (by decide) (Nat.le_of_ble_eq_true rfl) (Nat.le_of_ble_eq_true rfl) dX1_init_47 (fun q6 H hP hD hS => ?_)
  have hP : va_P D clss (W0 ++ [(h0, .inr (1, [.int 0, .ref q1, .ref q2, .int 0, .int 0, .ref q3, .ref q4, .ref q5, .null, .null, .int 0, .null, .null])), (q1, .inl (cy 1, 6, .inr (.inl (fun _ => 0)))), (q2, .inl (cy 0, 6, .inl (fun _ => 0))), (q3, .inl (cy 0, 16, .inl (fun _ => 0))), (q4, .inl (cy 0, 16, .inl (fun _ => 0))), (q5, .inl (cy 0, 16, .inl (fun _ => 0))), (q6, .inl (cy 0, 16, .inl (fun _ => 0)))]) H := hP
  have hD : va_D A (W0 ++ [(h0, .inr (1, [.int 0, .ref q1, .ref q2, .int 0, .int 0, .ref q3, .ref q4, .ref q5, .null, .null, .int 0, .null, .null])), (q1, .inl (cy 1, 6, .inr (.inl (fun _ => 0)))), (q2, .inl (cy 0, 6, .inl (fun _ => 0))), (q3, .inl (cy 0, 16, .inl (fun _ => 0))), (q4, .inl (cy 0, 16, .inl (fun _ => 0))), (q5, .inl (cy 0, 16, .inl (fun _ => 0))), (q6, .inl (cy 0, 16, .inl (fun _ => 0)))]) := hD
  refine z_put (ci := 1) (k := 8) (i := 0) (v := .ref q6) hx hb hts hown hK hP hD hS (by decide) (by decide) rfl wk167 hin rfl rfl rfl (Nat.le_of_ble_eq_true rfl) dX1_init_49 (fun H locs hP hD hS => ?_)
  have hP : va_P D clss (W0 ++ [(h0, .inr (1, [.int 0, .ref q1, .ref q2, .int 0, .int 0, .ref q3, .ref q4, .ref q5, .ref q6, .null, .int 0, .null, .null])), (q1, .inl (cy 1, 6, .inr (.inl (fun _ => 0)))), (q2, .inl (cy 0, 6, .inl (fun _ => 0))), (q3, .inl (cy 0, 16, .inl (fun _ => 0))), (q4, .inl (cy 0, 16, .inl (fun _ => 0))), (q5, .inl (cy 0, 16, .inl (fun _ => 0))), (q6, .inl (cy 0, 16, .inl (fun _ => 0)))]) H := hP
  have hD : va_D A (W0 ++ [(h0, .inr (1, [.int 0, .ref q1, .ref q2, .int 0, .int 0, .ref q3, .ref q4, .ref q5, .ref q6, .null, .int 0, .null, .null])), (q1, .inl (cy 1, 6, .inr (.inl (fun _ => 0)))), (q2, .inl (cy 0, 6, .inl (fun _ => 0))), (q3, .inl (cy 0, 16, .inl (fun _ => 0))), (q4, .inl (cy 0, 16, .inl (fun _ => 0))), (q5, .inl (cy 0, 16, .inl (fun _ => 0))), (q6, .inl (cy 0, 16, .inl (fun _ => 0)))]) := hD
  refine lv_aload_n hx hb dX1_init_52 rfl (lv_at hl 0 rfl) ?_
  refine lv_bipush (v := 102) hx hb dX1_init_53 (by decide) ?_
  refine z_newa (atype := .int) (ty := .int) (t0 := 0) (a0 := (102, .inl (fun _ => 0))) hx hb hts wk86 rfl rfl (fun C h => by cases h) hK hP hD hS hA (fun _ => rfl) (by decide) rfl (by decide) (Nat.le_of_ble_eq_true rfl) (Nat.le_of_ble_eq_true rfl) dX1_init_55 (fun q7 H hP hD hS => ?_)
  have hP : va_P D clss (W0 ++ [(h0, .inr (1, [.int 0, .ref q1, .ref q2, .int 0, .int 0, .ref q3, .ref q4, .ref q5, .ref q6, .null, .int 0, .null, .null])), (q1, .inl (cy 1, 6, .inr (.inl (fun _ => 0)))), (q2, .inl (cy 0, 6, .inl (fun _ => 0))), (q3, .inl (cy 0, 16, .inl (fun _ => 0))), (q4, .inl (cy 0, 16, .inl (fun _ => 0))), (q5, .inl (cy 0, 16, .inl (fun _ => 0))), (q6, .inl (cy 0, 16, .inl (fun _ => 0))), (q7, .inl (cy 0, 102, .inl (fun _ => 0)))]) H := hP
  have hD : va_D A (W0 ++ [(h0, .inr (1, [.int 0, .ref q1, .ref q2, .int 0, .int 0, .ref q3, .ref q4, .ref q5, .ref q6, .null, .int 0, .null, .null])), (q1, .inl (cy 1, 6, .inr (.inl (fun _ => 0)))), (q2, .inl (cy 0, 6, .inl (fun _ => 0))), (q3, .inl (cy 0, 16, .inl (fun _ => 0))), (q4, .inl (cy 0, 16, .inl (fun _ => 0))), (q5, .inl (cy 0, 16, .inl (fun _ => 0))), (q6, .inl (cy 0, 16, .inl (fun _ => 0))), (q7, .inl (cy 0, 102, .inl (fun _ => 0)))]) := hD
  refine z_put (ci := 1) (k := 9) (i := 0) (v := .ref q7) hx hb hts hown hK hP hD hS (by decide) (by decide) rfl wk172 hin rfl rfl rfl (Nat.le_of_ble_eq_true rfl) dX1_init_57 (fun H locs hP hD hS => ?_)
  have hP : va_P D clss (W0 ++ [(h0, .inr (1, [.int 0, .ref q1, .ref q2, .int 0, .int 0, .ref q3, .ref q4, .ref q5, .ref q6, .ref q7, .int 0, .null, .null])), (q1, .inl (cy 1, 6, .inr (.inl (fun _ => 0)))), (q2, .inl (cy 0, 6, .inl (fun _ => 0))), (q3, .inl (cy 0, 16, .inl (fun _ => 0))), (q4, .inl (cy 0, 16, .inl (fun _ => 0))), (q5, .inl (cy 0, 16, .inl (fun _ => 0))), (q6, .inl (cy 0, 16, .inl (fun _ => 0))), (q7, .inl (cy 0, 102, .inl (fun _ => 0)))]) H := hP
  have hD : va_D A (W0 ++ [(h0, .inr (1, [.int 0, .ref q1, .ref q2, .int 0, .int 0, .ref q3, .ref q4, .ref q5, .ref q6, .ref q7, .int 0, .null, .null])), (q1, .inl (cy 1, 6, .inr (.inl (fun _ => 0)))), (q2, .inl (cy 0, 6, .inl (fun _ => 0))), (q3, .inl (cy 0, 16, .inl (fun _ => 0))), (q4, .inl (cy 0, 16, .inl (fun _ => 0))), (q5, .inl (cy 0, 16, .inl (fun _ => 0))), (q6, .inl (cy 0, 16, .inl (fun _ => 0))), (q7, .inl (cy 0, 102, .inl (fun _ => 0)))]) := hD
  refine lv_aload_n hx hb dX1_init_60 rfl (lv_at hl 0 rfl) ?_
  refine lv_bipush (v := 20) hx hb dX1_init_61 (by decide) ?_
  refine z_newa (atype := .int) (ty := .int) (t0 := 0) (a0 := (20, .inl (fun _ => 0))) hx hb hts wk86 rfl rfl (fun C h => by cases h) hK hP hD hS hA (fun _ => rfl) (by decide) rfl (by decide) (Nat.le_of_ble_eq_true rfl) (Nat.le_of_ble_eq_true rfl) dX1_init_63 (fun q8 H hP hD hS => ?_)
  have hP : va_P D clss (W0 ++ [(h0, .inr (1, [.int 0, .ref q1, .ref q2, .int 0, .int 0, .ref q3, .ref q4, .ref q5, .ref q6, .ref q7, .int 0, .null, .null])), (q1, .inl (cy 1, 6, .inr (.inl (fun _ => 0)))), (q2, .inl (cy 0, 6, .inl (fun _ => 0))), (q3, .inl (cy 0, 16, .inl (fun _ => 0))), (q4, .inl (cy 0, 16, .inl (fun _ => 0))), (q5, .inl (cy 0, 16, .inl (fun _ => 0))), (q6, .inl (cy 0, 16, .inl (fun _ => 0))), (q7, .inl (cy 0, 102, .inl (fun _ => 0))), (q8, .inl (cy 0, 20, .inl (fun _ => 0)))]) H := hP
  have hD : va_D A (W0 ++ [(h0, .inr (1, [.int 0, .ref q1, .ref q2, .int 0, .int 0, .ref q3, .ref q4, .ref q5, .ref q6, .ref q7, .int 0, .null, .null])), (q1, .inl (cy 1, 6, .inr (.inl (fun _ => 0)))), (q2, .inl (cy 0, 6, .inl (fun _ => 0))), (q3, .inl (cy 0, 16, .inl (fun _ => 0))), (q4, .inl (cy 0, 16, .inl (fun _ => 0))), (q5, .inl (cy 0, 16, .inl (fun _ => 0))), (q6, .inl (cy 0, 16, .inl (fun _ => 0))), (q7, .inl (cy 0, 102, .inl (fun _ => 0))), (q8, .inl (cy 0, 20, .inl (fun _ => 0)))]) := hD
  refine z_put (ci := 1) (k := 11) (i := 0) (v := .ref q8) hx hb hts hown hK hP hD hS (by decide) (by decide) rfl wk177 hin rfl rfl rfl (Nat.le_of_ble_eq_true rfl) dX1_init_65 (fun H locs hP hD hS => ?_)
  have hP : va_P D clss (W0 ++ [(h0, .inr (1, [.int 0, .ref q1, .ref q2, .int 0, .int 0, .ref q3, .ref q4, .ref q5, .ref q6, .ref q7, .int 0, .ref q8, .null])), (q1, .inl (cy 1, 6, .inr (.inl (fun _ => 0)))), (q2, .inl (cy 0, 6, .inl (fun _ => 0))), (q3, .inl (cy 0, 16, .inl (fun _ => 0))), (q4, .inl (cy 0, 16, .inl (fun _ => 0))), (q5, .inl (cy 0, 16, .inl (fun _ => 0))), (q6, .inl (cy 0, 16, .inl (fun _ => 0))), (q7, .inl (cy 0, 102, .inl (fun _ => 0))), (q8, .inl (cy 0, 20, .inl (fun _ => 0)))]) H := hP
  have hD : va_D A (W0 ++ [(h0, .inr (1, [.int 0, .ref q1, .ref q2, .int 0, .int 0, .ref q3, .ref q4, .ref q5, .ref q6, .ref q7, .int 0, .ref q8, .null])), (q1, .inl (cy 1, 6, .inr (.inl (fun _ => 0)))), (q2, .inl (cy 0, 6, .inl (fun _ => 0))), (q3, .inl (cy 0, 16, .inl (fun _ => 0))), (q4, .inl (cy 0, 16, .inl (fun _ => 0))), (q5, .inl (cy 0, 16, .inl (fun _ => 0))), (q6, .inl (cy 0, 16, .inl (fun _ => 0))), (q7, .inl (cy 0, 102, .inl (fun _ => 0))), (q8, .inl (cy 0, 20, .inl (fun _ => 0)))]) := hD
  refine lv_aload_n hx hb dX1_init_68 rfl (lv_at hl 0 rfl) ?_
  refine lv_bipush (v := 20) hx hb dX1_init_69 (by decide) ?_
  refine z_newa (atype := .int) (ty := .int) (t0 := 0) (a0 := (20, .inl (fun _ => 0))) hx hb hts wk86 rfl rfl (fun C h => by cases h) hK hP hD hS hA (fun _ => rfl) (by decide) rfl (by decide) (Nat.le_of_ble_eq_true rfl) (Nat.le_of_ble_eq_true rfl) dX1_init_71 (fun q9 H hP hD hS => ?_)
  have hP : va_P D clss (W0 ++ [(h0, .inr (1, [.int 0, .ref q1, .ref q2, .int 0, .int 0, .ref q3, .ref q4, .ref q5, .ref q6, .ref q7, .int 0, .ref q8, .null])), (q1, .inl (cy 1, 6, .inr (.inl (fun _ => 0)))), (q2, .inl (cy 0, 6, .inl (fun _ => 0))), (q3, .inl (cy 0, 16, .inl (fun _ => 0))), (q4, .inl (cy 0, 16, .inl (fun _ => 0))), (q5, .inl (cy 0, 16, .inl (fun _ => 0))), (q6, .inl (cy 0, 16, .inl (fun _ => 0))), (q7, .inl (cy 0, 102, .inl (fun _ => 0))), (q8, .inl (cy 0, 20, .inl (fun _ => 0))), (q9, .inl (cy 0, 20, .inl (fun _ => 0)))]) H := hP
  have hD : va_D A (W0 ++ [(h0, .inr (1, [.int 0, .ref q1, .ref q2, .int 0, .int 0, .ref q3, .ref q4, .ref q5, .ref q6, .ref q7, .int 0, .ref q8, .null])), (q1, .inl (cy 1, 6, .inr (.inl (fun _ => 0)))), (q2, .inl (cy 0, 6, .inl (fun _ => 0))), (q3, .inl (cy 0, 16, .inl (fun _ => 0))), (q4, .inl (cy 0, 16, .inl (fun _ => 0))), (q5, .inl (cy 0, 16, .inl (fun _ => 0))), (q6, .inl (cy 0, 16, .inl (fun _ => 0))), (q7, .inl (cy 0, 102, .inl (fun _ => 0))), (q8, .inl (cy 0, 20, .inl (fun _ => 0))), (q9, .inl (cy 0, 20, .inl (fun _ => 0)))]) := hD
  refine z_put (ci := 1) (k := 12) (i := 0) (v := .ref q9) hx hb hts hown hK hP hD hS (by decide) (by decide) rfl wk179 hin rfl rfl rfl (Nat.le_of_ble_eq_true rfl) dX1_init_73 (fun H locs hP hD hS => ?_)
  have hP : va_P D clss (W0 ++ [(h0, .inr (1, [.int 0, .ref q1, .ref q2, .int 0, .int 0, .ref q3, .ref q4, .ref q5, .ref q6, .ref q7, .int 0, .ref q8, .ref q9])), (q1, .inl (cy 1, 6, .inr (.inl (fun _ => 0)))), (q2, .inl (cy 0, 6, .inl (fun _ => 0))), (q3, .inl (cy 0, 16, .inl (fun _ => 0))), (q4, .inl (cy 0, 16, .inl (fun _ => 0))), (q5, .inl (cy 0, 16, .inl (fun _ => 0))), (q6, .inl (cy 0, 16, .inl (fun _ => 0))), (q7, .inl (cy 0, 102, .inl (fun _ => 0))), (q8, .inl (cy 0, 20, .inl (fun _ => 0))), (q9, .inl (cy 0, 20, .inl (fun _ => 0)))]) H := hP
  have hD : va_D A (W0 ++ [(h0, .inr (1, [.int 0, .ref q1, .ref q2, .int 0, .int 0, .ref q3, .ref q4, .ref q5, .ref q6, .ref q7, .int 0, .ref q8, .ref q9])), (q1, .inl (cy 1, 6, .inr (.inl (fun _ => 0)))), (q2, .inl (cy 0, 6, .inl (fun _ => 0))), (q3, .inl (cy 0, 16, .inl (fun _ => 0))), (q4, .inl (cy 0, 16, .inl (fun _ => 0))), (q5, .inl (cy 0, 16, .inl (fun _ => 0))), (q6, .inl (cy 0, 16, .inl (fun _ => 0))), (q7, .inl (cy 0, 102, .inl (fun _ => 0))), (q8, .inl (cy 0, 20, .inl (fun _ => 0))), (q9, .inl (cy 0, 20, .inl (fun _ => 0)))]) := hD
  exact W.vret hx hb hr (fun t ht hW => ⟨rfl, _, ⟨q1, q2, q3, q4, q5, q6, q7, q8, q9, rfl⟩, by rw [ht]; exact hP, hD, hS.F ht⟩) hS.2.2 dX1_init_76 hlocks

set_option maxRecDepth 100000 in
set_option maxHeartbeats 8000000 in
theorem kX2 (l : Launch) (D : va_G) (cy : Nat → ClassId) (A : Nat → Prop) (W0 : va_W) (h0 a1 a2 : Nat) : Met l yX2_init (.code yX2_init cX2_init 3 none :: gt) (rmc 1 2 36) (Pk D cy A [.ref h0, .ref a1, .ref a2] (W0 ++ [(h0, .inr (2, [.null, .null, .null, .null, .null, .int 0]))])) (Qk D A (fun w => ∃ q1 q2 : Nat, w = W0 ++ [(h0, .inr (2, [.ref a1, .ref a2, .null, .ref q1, .ref q2, .int 0])), (q1, .inl (cy 1, 16, .inr (.inl (fun _ => 0)))), (q2, .inl (cy 0, 20, .inl (fun _ => 0)))])) 2 36 A := by
  refine Met.ofW (cc := cX2_init) (maxL := 3) (ret := none) (by decide +kernel) rfl ?_
  intro p e s m args below meth c s₁ B hml hv
  obtain ⟨rfl, hK, hP, hD, hA, hN⟩ := hv
  have hx := B.exec
  have hb := B.bytes
  have hr := B.returns
  have hts0 := atoms_spec (ws := .code yX2_init cX2_init 3 none :: gt) B.pre
  have hts : ∀ w ∈ gt, w.before ([.ref h0, .ref a1, .ref a2] : List Value).toArray s = true := fun w hw => hts0 w (List.mem_cons_of_mem _ hw)
  have hown : s.vm.findClass RX2 = some m.cls := findClass_of_methodNamed B.named
  have hlocks := B.notSynchronized
  have hin : meth.name = "<init>" := (name_of_methodNamed B.named B.method).1
  have hS : va_S A s.heap s.heap [] := va_S.rf
  have hl := lv_entry ([.ref h0, .ref a1, .ref a2]) (n := 3) (Nat.le_of_ble_eq_true rfl)
  rw [lg_entry_eq]
  generalize (lg_sl ([.ref h0, .ref a1, .ref a2]) ++ List.replicate (3 - (lg_sl ([.ref h0, .ref a1, .ref a2])).length) Slot.unset).toArray = ls at hl ⊢
  have hl : lv_has ls 3 [(0, .ref h0), (1, .ref a1), (2, .ref a2)] := hl
  refine lv_aload_n hx hb dX2_init_0 rfl (lv_at hl 0 rfl) ?_
  refine W.objInit hx hb hown (hts _ wk107) (hts _ wk30) (hts _ wk31) rfl (by rw [hml]; exact hl.1) rfl dX2_init_1 (Nat.le_of_ble_eq_true rfl) (Nat.le_of_ble_eq_true rfl) ?_
  refine lv_aload_n hx hb dX2_init_4 rfl (lv_at hl 0 rfl) ?_
  refine lv_bipush (v := 16) hx hb dX2_init_5 (by decide) ?_
  refine z_newa (atype := .long) (ty := .long) (t0 := 1) (a0 := (16, .inr (.inl (fun _ => 0)))) hx hb hts wk87 rfl rfl (fun C h => by cases h) hK hP hD hS hA (fun _ => rfl) (by decide) rfl (by decide) (Nat.le_of_ble_eq_true rfl) (Nat.le_of_ble_eq_true rfl) dX2_init_7 (fun q1 H hP hD hS => ?_)
  have hP : va_P D clss (W0 ++ [(h0, .inr (2, [.null, .null, .null, .null, .null, .int 0])), (q1, .inl (cy 1, 16, .inr (.inl (fun _ => 0))))]) H := hP
  have hD : va_D A (W0 ++ [(h0, .inr (2, [.null, .null, .null, .null, .null, .int 0])), (q1, .inl (cy 1, 16, .inr (.inl (fun _ => 0))))]) := hD
  refine z_put (ci := 2) (k := 3) (i := 0) (v := .ref q1) hx hb hts hown hK hP hD hS (by decide) (by decide) rfl wk111 hin rfl rfl rfl (Nat.le_of_ble_eq_true rfl) dX2_init_9 (fun H locs hP hD hS => ?_)
  have hP : va_P D clss (W0 ++ [(h0, .inr (2, [.null, .null, .null, .ref q1, .null, .int 0])), (q1, .inl (cy 1, 16, .inr (.inl (fun _ => 0))))]) H := hP
  have hD : va_D A (W0 ++ [(h0, .inr (2, [.null, .null, .null, .ref q1, .null, .int 0])), (q1, .inl (cy 1, 16, .inr (.inl (fun _ => 0))))]) := hD
  refine lv_aload_n hx hb dX2_init_12 rfl (lv_at hl 0 rfl) ?_
  refine lv_bipush (v := 20) hx hb dX2_init_13 (by decide) ?_
  refine z_newa (atype := .int) (ty := .int) (t0 := 0) (a0 := (20, .inl (fun _ => 0))) hx hb hts wk86 rfl rfl (fun C h => by cases h) hK hP hD hS hA (fun _ => rfl) (by decide) rfl (by decide) (Nat.le_of_ble_eq_true rfl) (Nat.le_of_ble_eq_true rfl) dX2_init_15 (fun q2 H hP hD hS => ?_)
  have hP : va_P D clss (W0 ++ [(h0, .inr (2, [.null, .null, .null, .ref q1, .null, .int 0])), (q1, .inl (cy 1, 16, .inr (.inl (fun _ => 0)))), (q2, .inl (cy 0, 20, .inl (fun _ => 0)))]) H := hP
  have hD : va_D A (W0 ++ [(h0, .inr (2, [.null, .null, .null, .ref q1, .null, .int 0])), (q1, .inl (cy 1, 16, .inr (.inl (fun _ => 0)))), (q2, .inl (cy 0, 20, .inl (fun _ => 0)))]) := hD
  refine z_put (ci := 2) (k := 4) (i := 0) (v := .ref q2) hx hb hts hown hK hP hD hS (by decide) (by decide) rfl wk112 hin rfl rfl rfl (Nat.le_of_ble_eq_true rfl) dX2_init_17 (fun H locs hP hD hS => ?_)
  have hP : va_P D clss (W0 ++ [(h0, .inr (2, [.null, .null, .null, .ref q1, .ref q2, .int 0])), (q1, .inl (cy 1, 16, .inr (.inl (fun _ => 0)))), (q2, .inl (cy 0, 20, .inl (fun _ => 0)))]) H := hP
  have hD : va_D A (W0 ++ [(h0, .inr (2, [.null, .null, .null, .ref q1, .ref q2, .int 0])), (q1, .inl (cy 1, 16, .inr (.inl (fun _ => 0)))), (q2, .inl (cy 0, 20, .inl (fun _ => 0)))]) := hD
  refine lv_aload_n hx hb dX2_init_20 rfl (lv_at hl 0 rfl) ?_
  refine lv_aload_n hx hb dX2_init_21 rfl (lv_at hl 1 rfl) ?_
  refine z_put (ci := 2) (k := 0) (i := 0) (v := .ref a1) hx hb hts hown hK hP hD hS (by decide) (by decide) rfl wk108 hin rfl rfl rfl (Nat.le_of_ble_eq_true rfl) dX2_init_22 (fun H locs hP hD hS => ?_)
  have hP : va_P D clss (W0 ++ [(h0, .inr (2, [.ref a1, .null, .null, .ref q1, .ref q2, .int 0])), (q1, .inl (cy 1, 16, .inr (.inl (fun _ => 0)))), (q2, .inl (cy 0, 20, .inl (fun _ => 0)))]) H := hP
  have hD : va_D A (W0 ++ [(h0, .inr (2, [.ref a1, .null, .null, .ref q1, .ref q2, .int 0])), (q1, .inl (cy 1, 16, .inr (.inl (fun _ => 0)))), (q2, .inl (cy 0, 20, .inl (fun _ => 0)))]) := hD
  refine lv_aload_n hx hb dX2_init_25 rfl (lv_at hl 0 rfl) ?_
  refine lv_aload_n hx hb dX2_init_26 rfl (lv_at hl 2 rfl) ?_
  refine z_put (ci := 2) (k := 1) (i := 0) (v := .ref a2) hx hb hts hown hK hP hD hS (by decide) (by decide) rfl wk109 hin rfl rfl rfl (Nat.le_of_ble_eq_true rfl) dX2_init_27 (fun H locs hP hD hS => ?_)
  have hP : va_P D clss (W0 ++ [(h0, .inr (2, [.ref a1, .ref a2, .null, .ref q1, .ref q2, .int 0])), (q1, .inl (cy 1, 16, .inr (.inl (fun _ => 0)))), (q2, .inl (cy 0, 20, .inl (fun _ => 0)))]) H := hP
  have hD : va_D A (W0 ++ [(h0, .inr (2, [.ref a1, .ref a2, .null, .ref q1, .ref q2, .int 0])), (q1, .inl (cy 1, 16, .inr (.inl (fun _ => 0)))), (q2, .inl (cy 0, 20, .inl (fun _ => 0)))]) := hD
  exact W.vret hx hb hr (fun t ht hW => ⟨rfl, _, ⟨q1, q2, rfl⟩, by rw [ht]; exact hP, hD, hS.F ht⟩) hS.2.2 dX2_init_30 hlocks

set_option maxRecDepth 100000 in
set_option maxHeartbeats 8000000 in
theorem kX6 (l : Launch) (D : va_G) (cy : Nat → ClassId) (A : Nat → Prop) (W0 : va_W) (h0 a1 : Nat) : Met l yX6_init (.code yX6_init cX6_init 2 none :: gt) (rmc 1 6 1074) (Pk D cy A [.ref h0, .ref a1] (W0 ++ [(h0, .inr (6, [.null, .null, .int 0, .null, .null, .null, .null, .null, .int 0, .int 0, .null, .int 0]))])) (Qk D A (fun w => ∃ q1 q2 q3 q4 q5 q6 : Nat, w = W0 ++ [(h0, .inr (6, [.ref a1, .null, .int 0, .ref q1, .ref q2, .ref q3, .ref q4, .ref q5, .int 0, .int 0, .ref q6, .int 0])), (q1, .inl (cy 0, 8, .inl (fun _ => 0))), (q2, .inl (cy 0, 8, .inl (fun _ => 0))), (q3, .inl (cy 0, 8, .inl (fun _ => 0))), (q4, .inl (cy 0, 500, .inl (fun _ => 0))), (q5, .inl (cy 0, 500, .inl (fun _ => 0))), (q6, .inl (cy 0, 50, .inl (fun _ => 0)))])) 6 1074 A := by
  refine Met.ofW (cc := cX6_init) (maxL := 2) (ret := none) (by decide +kernel) rfl ?_
  intro p e s m args below meth c s₁ B hml hv
  obtain ⟨rfl, hK, hP, hD, hA, hN⟩ := hv
  have hx := B.exec
  have hb := B.bytes
  have hr := B.returns
  have hts0 := atoms_spec (ws := .code yX6_init cX6_init 2 none :: gt) B.pre
  have hts : ∀ w ∈ gt, w.before ([.ref h0, .ref a1] : List Value).toArray s = true := fun w hw => hts0 w (List.mem_cons_of_mem _ hw)
  have hown : s.vm.findClass RX6 = some m.cls := findClass_of_methodNamed B.named
  have hlocks := B.notSynchronized
  have hin : meth.name = "<init>" := (name_of_methodNamed B.named B.method).1
  have hS : va_S A s.heap s.heap [] := va_S.rf
  have hl := lv_entry ([.ref h0, .ref a1]) (n := 2) (Nat.le_of_ble_eq_true rfl)
  rw [lg_entry_eq]
  generalize (lg_sl ([.ref h0, .ref a1]) ++ List.replicate (2 - (lg_sl ([.ref h0, .ref a1])).length) Slot.unset).toArray = ls at hl ⊢
  have hl : lv_has ls 2 [(0, .ref h0), (1, .ref a1)] := hl
  refine lv_aload_n hx hb dX6_init_0 rfl (lv_at hl 0 rfl) ?_
  refine W.objInit hx hb hown (hts _ wk213) (hts _ wk30) (hts _ wk31) rfl (by rw [hml]; exact hl.1) rfl dX6_init_1 (Nat.le_of_ble_eq_true rfl) (Nat.le_of_ble_eq_true rfl) ?_
  refine lv_aload_n hx hb dX6_init_4 rfl (lv_at hl 0 rfl) ?_
  refine lv_bipush (v := 8) hx hb dX6_init_5 (by decide) ?_
  refine z_newa (atype := .int) (ty := .int) (t0 := 0) (a0 := (8, .inl (fun _ => 0))) hx hb hts wk86 rfl rfl (fun C h => by cases h) hK hP hD hS hA (fun _ => rfl) (by decide) rfl (by decide) (Nat.le_of_ble_eq_true rfl) (Nat.le_of_ble_eq_true rfl) dX6_init_7 (fun q1 H hP hD hS => ?_)
  have hP : va_P D clss (W0 ++ [(h0, .inr (6, [.null, .null, .int 0, .null, .null, .null, .null, .null, .int 0, .int 0, .null, .int 0])), (q1, .inl (cy 0, 8, .inl (fun _ => 0)))]) H := hP
  have hD : va_D A (W0 ++ [(h0, .inr (6, [.null, .null, .int 0, .null, .null, .null, .null, .null, .int 0, .int 0, .null, .int 0])), (q1, .inl (cy 0, 8, .inl (fun _ => 0)))]) := hD
  refine z_put (ci := 6) (k := 3) (i := 0) (v := .ref q1) hx hb hts hown hK hP hD hS (by decide) (by decide) rfl wk218 hin rfl rfl rfl (Nat.le_of_ble_eq_true rfl) dX6_init_9 (fun H locs hP hD hS => ?_)
  have hP : va_P D clss (W0 ++ [(h0, .inr (6, [.null, .null, .int 0, .ref q1, .null, .null, .null, .null, .int 0, .int 0, .null, .int 0])), (q1, .inl (cy 0, 8, .inl (fun _ => 0)))]) H := hP
  have hD : va_D A (W0 ++ [(h0, .inr (6, [.null, .null, .int 0, .ref q1, .null, .null, .null, .null, .int 0, .int 0, .null, .int 0])), (q1, .inl (cy 0, 8, .inl (fun _ => 0)))]) := hD
  refine lv_aload_n hx hb dX6_init_12 rfl (lv_at hl 0 rfl) ?_
  refine lv_bipush (v := 8) hx hb dX6_init_13 (by decide) ?_
  refine z_newa (atype := .int) (ty := .int) (t0 := 0) (a0 := (8, .inl (fun _ => 0))) hx hb hts wk86 rfl rfl (fun C h => by cases h) hK hP hD hS hA (fun _ => rfl) (by decide) rfl (by decide) (Nat.le_of_ble_eq_true rfl) (Nat.le_of_ble_eq_true rfl) dX6_init_15 (fun q2 H hP hD hS => ?_)
  have hP : va_P D clss (W0 ++ [(h0, .inr (6, [.null, .null, .int 0, .ref q1, .null, .null, .null, .null, .int 0, .int 0, .null, .int 0])), (q1, .inl (cy 0, 8, .inl (fun _ => 0))), (q2, .inl (cy 0, 8, .inl (fun _ => 0)))]) H := hP
  have hD : va_D A (W0 ++ [(h0, .inr (6, [.null, .null, .int 0, .ref q1, .null, .null, .null, .null, .int 0, .int 0, .null, .int 0])), (q1, .inl (cy 0, 8, .inl (fun _ => 0))), (q2, .inl (cy 0, 8, .inl (fun _ => 0)))]) := hD
  refine z_put (ci := 6) (k := 4) (i := 0) (v := .ref q2) hx hb hts hown hK hP hD hS (by decide) (by decide) rfl wk220 hin rfl rfl rfl (Nat.le_of_ble_eq_true rfl) dX6_init_17 (fun H locs hP hD hS => ?_)
  have hP : va_P D clss (W0 ++ [(h0, .inr (6, [.null, .null, .int 0, .ref q1, .ref q2, .null, .null, .null, .int 0, .int 0, .null, .int 0])), (q1, .inl (cy 0, 8, .inl (fun _ => 0))), (q2, .inl (cy 0, 8, .inl (fun _ => 0)))]) H := hP
  have hD : va_D A (W0 ++ [(h0, .inr (6, [.null, .null, .int 0, .ref q1, .ref q2, .null, .null, .null, .int 0, .int 0, .null, .int 0])), (q1, .inl (cy 0, 8, .inl (fun _ => 0))), (q2, .inl (cy 0, 8, .inl (fun _ => 0)))]) := hD
  refine lv_aload_n hx hb dX6_init_20 rfl (lv_at hl 0 rfl) ?_
  refine lv_bipush (v := 8) hx hb dX6_init_21 (by decide) ?_
  refine z_newa (atype := .int) (ty := .int) (t0 := 0) (a0 := (8, .inl (fun _ => 0))) hx hb hts wk86 rfl rfl (fun C h => by cases h) hK hP hD hS hA (fun _ => rfl) (by decide) rfl (by decide) (Nat.le_of_ble_eq_true rfl) (Nat.le_of_ble_eq_true rfl) dX6_init_23 (fun q3 H hP hD hS => ?_)
  have hP : va_P D clss (W0 ++ [(h0, .inr (6, [.null, .null, .int 0, .ref q1, .ref q2, .null, .null, .null, .int 0, .int 0, .null, .int 0])), (q1, .inl (cy 0, 8, .inl (fun _ => 0))), (q2, .inl (cy 0, 8, .inl (fun _ => 0))), (q3, .inl (cy 0, 8, .inl (fun _ => 0)))]) H := hP
  have hD : va_D A (W0 ++ [(h0, .inr (6, [.null, .null, .int 0, .ref q1, .ref q2, .null, .null, .null, .int 0, .int 0, .null, .int 0])), (q1, .inl (cy 0, 8, .inl (fun _ => 0))), (q2, .inl (cy 0, 8, .inl (fun _ => 0))), (q3, .inl (cy 0, 8, .inl (fun _ => 0)))]) := hD
  refine z_put (ci := 6) (k := 5) (i := 0) (v := .ref q3) hx hb hts hown hK hP hD hS (by decide) (by decide) rfl wk222 hin rfl rfl rfl (Nat.le_of_ble_eq_true rfl) dX6_init_25 (fun H locs hP hD hS => ?_)
  have hP : va_P D clss (W0 ++ [(h0, .inr (6, [.null, .null, .int 0, .ref q1, .ref q2, .ref q3, .null, .null, .int 0, .int 0, .null, .int 0])), (q1, .inl (cy 0, 8, .inl (fun _ => 0))), (q2, .inl (cy 0, 8, .inl (fun _ => 0))), (q3, .inl (cy 0, 8, .inl (fun _ => 0)))]) H := hP
  have hD : va_D A (W0 ++ [(h0, .inr (6, [.null, .null, .int 0, .ref q1, .ref q2, .ref q3, .null, .null, .int 0, .int 0, .null, .int 0])), (q1, .inl (cy 0, 8, .inl (fun _ => 0))), (q2, .inl (cy 0, 8, .inl (fun _ => 0))), (q3, .inl (cy 0, 8, .inl (fun _ => 0)))]) := hD
  refine lv_aload_n hx hb dX6_init_28 rfl (lv_at hl 0 rfl) ?_
  refine lv_sipush (v := 500) hx hb dX6_init_29 (by decide) ?_
  refine z_newa (atype := .int) (ty := .int) (t0 := 0) (a0 := (500, .inl (fun _ => 0))) hx hb hts wk86 rfl rfl (fun C h => by cases h) hK hP hD hS hA (fun _ => rfl) (by decide) rfl (by decide) (Nat.le_of_ble_eq_true rfl) (Nat.le_of_ble_eq_true rfl) dX6_init_32 (fun q4 H hP hD hS => ?_)
  have hP : va_P D clss (W0 ++ [(h0, .inr (6, [.null, .null, .int 0, .ref q1, .ref q2, .ref q3, .null, .null, .int 0, .int 0, .null, .int 0])), (q1, .inl (cy 0, 8, .inl (fun _ => 0))), (q2, .inl (cy 0, 8, .inl (fun _ => 0))), (q3, .inl (cy 0, 8, .inl (fun _ => 0))), (q4, .inl (cy 0, 500, .inl (fun _ => 0)))]) H := hP
  have hD : va_D A (W0 ++ [(h0, .inr (6, [.null, .null, .int 0, .ref q1, .ref q2, .ref q3, .null, .null, .int 0, .int 0, .null, .int 0])), (q1, .inl (cy 0, 8, .inl (fun _ => 0))), (q2, .inl (cy 0, 8, .inl (fun _ => 0))), (q3, .inl (cy 0, 8, .inl (fun _ => 0))), (q4, .inl (cy 0, 500, .inl (fun _ => 0)))]) := hD
  refine z_put (ci := 6) (k := 6) (i := 0) (v := .ref q4) hx hb hts hown hK hP hD hS (by decide) (by decide) rfl wk223 hin rfl rfl rfl (Nat.le_of_ble_eq_true rfl) dX6_init_34 (fun H locs hP hD hS => ?_)
  have hP : va_P D clss (W0 ++ [(h0, .inr (6, [.null, .null, .int 0, .ref q1, .ref q2, .ref q3, .ref q4, .null, .int 0, .int 0, .null, .int 0])), (q1, .inl (cy 0, 8, .inl (fun _ => 0))), (q2, .inl (cy 0, 8, .inl (fun _ => 0))), (q3, .inl (cy 0, 8, .inl (fun _ => 0))), (q4, .inl (cy 0, 500, .inl (fun _ => 0)))]) H := hP
  have hD : va_D A (W0 ++ [(h0, .inr (6, [.null, .null, .int 0, .ref q1, .ref q2, .ref q3, .ref q4, .null, .int 0, .int 0, .null, .int 0])), (q1, .inl (cy 0, 8, .inl (fun _ => 0))), (q2, .inl (cy 0, 8, .inl (fun _ => 0))), (q3, .inl (cy 0, 8, .inl (fun _ => 0))), (q4, .inl (cy 0, 500, .inl (fun _ => 0)))]) := hD
  refine lv_aload_n hx hb dX6_init_37 rfl (lv_at hl 0 rfl) ?_
  refine lv_sipush (v := 500) hx hb dX6_init_38 (by decide) ?_
  refine z_newa (atype := .int) (ty := .int) (t0 := 0) (a0 := (500, .inl (fun _ => 0))) hx hb hts wk86 rfl rfl (fun C h => by cases h) hK hP hD hS hA (fun _ => rfl) (by decide) rfl (by decide) (Nat.le_of_ble_eq_true rfl) (Nat.le_of_ble_eq_true rfl) dX6_init_41 (fun q5 H hP hD hS => ?_)
  have hP : va_P D clss (W0 ++ [(h0, .inr (6, [.null, .null, .int 0, .ref q1, .ref q2, .ref q3, .ref q4, .null, .int 0, .int 0, .null, .int 0])), (q1, .inl (cy 0, 8, .inl (fun _ => 0))), (q2, .inl (cy 0, 8, .inl (fun _ => 0))), (q3, .inl (cy 0, 8, .inl (fun _ => 0))), (q4, .inl (cy 0, 500, .inl (fun _ => 0))), (q5, .inl (cy 0, 500, .inl (fun _ => 0)))]) H := hP
  have hD : va_D A (W0 ++ [(h0, .inr (6, [.null, .null, .int 0, .ref q1, .ref q2, .ref q3, .ref q4, .null, .int 0, .int 0, .null, .int 0])), (q1, .inl (cy 0, 8, .inl (fun _ => 0))), (q2, .inl (cy 0, 8, .inl (fun _ => 0))), (q3, .inl (cy 0, 8, .inl (fun _ => 0))), (q4, .inl (cy 0, 500, .inl (fun _ => 0))), (q5, .inl (cy 0, 500, .inl (fun _ => 0)))]) := hD
  refine z_put (ci := 6) (k := 7) (i := 0) (v := .ref q5) hx hb hts hown hK hP hD hS (by decide) (by decide) rfl wk224 hin rfl rfl rfl (Nat.le_of_ble_eq_true rfl) dX6_init_43 (fun H locs hP hD hS => ?_)
  have hP : va_P D clss (W0 ++ [(h0, .inr (6, [.null, .null, .int 0, .ref q1, .ref q2, .ref q3, .ref q4, .ref q5, .int 0, .int 0, .null, .int 0])), (q1, .inl (cy 0, 8, .inl (fun _ => 0))), (q2, .inl (cy 0, 8, .inl (fun _ => 0))), (q3, .inl (cy 0, 8, .inl (fun _ => 0))), (q4, .inl (cy 0, 500, .inl (fun _ => 0))), (q5, .inl (cy 0, 500, .inl (fun _ => 0)))]) H := hP
  have hD : va_D A (W0 ++ [(h0, .inr (6, [.null, .null, .int 0, .ref q1, .ref q2, .ref q3, .ref q4, .ref q5, .int 0, .int 0, .null, .int 0])), (q1, .inl (cy 0, 8, .inl (fun _ => 0))), (q2, .inl (cy 0, 8, .inl (fun _ => 0))), (q3, .inl (cy 0, 8, .inl (fun _ => 0))), (q4, .inl (cy 0, 500, .inl (fun _ => 0))), (q5, .inl (cy 0, 500, .inl (fun _ => 0)))]) := hD
  refine lv_aload_n hx hb dX6_init_46 rfl (lv_at hl 0 rfl) ?_
  refine lv_bipush (v := 50) hx hb dX6_init_47 (by decide) ?_
  refine z_newa (atype := .int) (ty := .int) (t0 := 0) (a0 := (50, .inl (fun _ => 0))) hx hb hts wk86 rfl rfl (fun C h => by cases h) hK hP hD hS hA (fun _ => rfl) (by decide) rfl (by decide) (Nat.le_of_ble_eq_true rfl) (Nat.le_of_ble_eq_true rfl) dX6_init_49 (fun q6 H hP hD hS => ?_)
  have hP : va_P D clss (W0 ++ [(h0, .inr (6, [.null, .null, .int 0, .ref q1, .ref q2, .ref q3, .ref q4, .ref q5, .int 0, .int 0, .null, .int 0])), (q1, .inl (cy 0, 8, .inl (fun _ => 0))), (q2, .inl (cy 0, 8, .inl (fun _ => 0))), (q3, .inl (cy 0, 8, .inl (fun _ => 0))), (q4, .inl (cy 0, 500, .inl (fun _ => 0))), (q5, .inl (cy 0, 500, .inl (fun _ => 0))), (q6, .inl (cy 0, 50, .inl (fun _ => 0)))]) H := hP
  have hD : va_D A (W0 ++ [(h0, .inr (6, [.null, .null, .int 0, .ref q1, .ref q2, .ref q3, .ref q4, .ref q5, .int 0, .int 0, .null, .int 0])), (q1, .inl (cy 0, 8, .inl (fun _ => 0))), (q2, .inl (cy 0, 8, .inl (fun _ => 0))), (q3, .inl (cy 0, 8, .inl (fun _ => 0))), (q4, .inl (cy 0, 500, .inl (fun _ => 0))), (q5, .inl (cy 0, 500, .inl (fun _ => 0))), (q6, .inl (cy 0, 50, .inl (fun _ => 0)))]) := hD
  refine z_put (ci := 6) (k := 10) (i := 0) (v := .ref q6) hx hb hts hown hK hP hD hS (by decide) (by decide) rfl wk227 hin rfl rfl rfl (Nat.le_of_ble_eq_true rfl) dX6_init_51 (fun H locs hP hD hS => ?_)
  have hP : va_P D clss (W0 ++ [(h0, .inr (6, [.null, .null, .int 0, .ref q1, .ref q2, .ref q3, .ref q4, .ref q5, .int 0, .int 0, .ref q6, .int 0])), (q1, .inl (cy 0, 8, .inl (fun _ => 0))), (q2, .inl (cy 0, 8, .inl (fun _ => 0))), (q3, .inl (cy 0, 8, .inl (fun _ => 0))), (q4, .inl (cy 0, 500, .inl (fun _ => 0))), (q5, .inl (cy 0, 500, .inl (fun _ => 0))), (q6, .inl (cy 0, 50, .inl (fun _ => 0)))]) H := hP
  have hD : va_D A (W0 ++ [(h0, .inr (6, [.null, .null, .int 0, .ref q1, .ref q2, .ref q3, .ref q4, .ref q5, .int 0, .int 0, .ref q6, .int 0])), (q1, .inl (cy 0, 8, .inl (fun _ => 0))), (q2, .inl (cy 0, 8, .inl (fun _ => 0))), (q3, .inl (cy 0, 8, .inl (fun _ => 0))), (q4, .inl (cy 0, 500, .inl (fun _ => 0))), (q5, .inl (cy 0, 500, .inl (fun _ => 0))), (q6, .inl (cy 0, 50, .inl (fun _ => 0)))]) := hD
  refine lv_aload_n hx hb dX6_init_54 rfl (lv_at hl 0 rfl) ?_
  refine lv_aload_n hx hb dX6_init_55 rfl (lv_at hl 1 rfl) ?_
  refine z_put (ci := 6) (k := 0) (i := 0) (v := .ref a1) hx hb hts hown hK hP hD hS (by decide) (by decide) rfl wk214 hin rfl rfl rfl (Nat.le_of_ble_eq_true rfl) dX6_init_56 (fun H locs hP hD hS => ?_)
  have hP : va_P D clss (W0 ++ [(h0, .inr (6, [.ref a1, .null, .int 0, .ref q1, .ref q2, .ref q3, .ref q4, .ref q5, .int 0, .int 0, .ref q6, .int 0])), (q1, .inl (cy 0, 8, .inl (fun _ => 0))), (q2, .inl (cy 0, 8, .inl (fun _ => 0))), (q3, .inl (cy 0, 8, .inl (fun _ => 0))), (q4, .inl (cy 0, 500, .inl (fun _ => 0))), (q5, .inl (cy 0, 500, .inl (fun _ => 0))), (q6, .inl (cy 0, 50, .inl (fun _ => 0)))]) H := hP
  have hD : va_D A (W0 ++ [(h0, .inr (6, [.ref a1, .null, .int 0, .ref q1, .ref q2, .ref q3, .ref q4, .ref q5, .int 0, .int 0, .ref q6, .int 0])), (q1, .inl (cy 0, 8, .inl (fun _ => 0))), (q2, .inl (cy 0, 8, .inl (fun _ => 0))), (q3, .inl (cy 0, 8, .inl (fun _ => 0))), (q4, .inl (cy 0, 500, .inl (fun _ => 0))), (q5, .inl (cy 0, 500, .inl (fun _ => 0))), (q6, .inl (cy 0, 50, .inl (fun _ => 0)))]) := hD
  exact W.vret hx hb hr (fun t ht hW => ⟨rfl, _, ⟨q1, q2, q3, q4, q5, q6, rfl⟩, by rw [ht]; exact hP, hD, hS.F ht⟩) hS.2.2 dX6_init_59 hlocks

set_option maxRecDepth 100000 in
set_option maxHeartbeats 8000000 in
theorem kX0 (l : Launch) (D : va_G) (cy : Nat → ClassId) (A : Nat → Prop) (W0 : va_W) (h0 : Nat) : Met l yX0_init (.code yX0_init cX0_init 1 none :: gt) (rmc 1 4 240) (Pk D cy A [.ref h0] (W0 ++ [(h0, .inr (0, [.int 0, .int 0, .null, .null, .null, .null]))])) (Qk D A (fun w => ∃ q1 q2 q3 q4 : Nat, w = W0 ++ [(h0, .inr (0, [.int 0, .int 0, .ref q1, .ref q2, .ref q3, .ref q4])), (q1, .inl (cy 0, 60, .inl (fun _ => 0))), (q2, .inl (cy 0, 60, .inl (fun _ => 0))), (q3, .inl (cy 0, 60, .inl (fun _ => 0))), (q4, .inl (cy 0, 60, .inl (fun _ => 0)))])) 4 240 A := by
  refine Met.ofW (cc := cX0_init) (maxL := 1) (ret := none) (by decide +kernel) rfl ?_
  intro p e s m args below meth c s₁ B hml hv
  obtain ⟨rfl, hK, hP, hD, hA, hN⟩ := hv
  have hx := B.exec
  have hb := B.bytes
  have hr := B.returns
  have hts0 := atoms_spec (ws := .code yX0_init cX0_init 1 none :: gt) B.pre
  have hts : ∀ w ∈ gt, w.before ([.ref h0] : List Value).toArray s = true := fun w hw => hts0 w (List.mem_cons_of_mem _ hw)
  have hown : s.vm.findClass RX0 = some m.cls := findClass_of_methodNamed B.named
  have hlocks := B.notSynchronized
  have hin : meth.name = "<init>" := (name_of_methodNamed B.named B.method).1
  have hS : va_S A s.heap s.heap [] := va_S.rf
  have hl := lv_entry ([.ref h0]) (n := 1) (Nat.le_of_ble_eq_true rfl)
  rw [lg_entry_eq]
  generalize (lg_sl ([.ref h0]) ++ List.replicate (1 - (lg_sl ([.ref h0])).length) Slot.unset).toArray = ls at hl ⊢
  have hl : lv_has ls 1 [(0, .ref h0)] := hl
  refine lv_aload_n hx hb dX0_init_0 rfl (lv_at hl 0 rfl) ?_
  refine W.objInit hx hb hown (hts _ wk260) (hts _ wk30) (hts _ wk31) rfl (by rw [hml]; exact hl.1) rfl dX0_init_1 (Nat.le_of_ble_eq_true rfl) (Nat.le_of_ble_eq_true rfl) ?_
  refine lv_aload_n hx hb dX0_init_4 rfl (lv_at hl 0 rfl) ?_
  refine lv_bipush (v := 60) hx hb dX0_init_5 (by decide) ?_
  refine z_newa (atype := .int) (ty := .int) (t0 := 0) (a0 := (60, .inl (fun _ => 0))) hx hb hts wk86 rfl rfl (fun C h => by cases h) hK hP hD hS hA (fun _ => rfl) (by decide) rfl (by decide) (Nat.le_of_ble_eq_true rfl) (Nat.le_of_ble_eq_true rfl) dX0_init_7 (fun q1 H hP hD hS => ?_)
  have hP : va_P D clss (W0 ++ [(h0, .inr (0, [.int 0, .int 0, .null, .null, .null, .null])), (q1, .inl (cy 0, 60, .inl (fun _ => 0)))]) H := hP
  have hD : va_D A (W0 ++ [(h0, .inr (0, [.int 0, .int 0, .null, .null, .null, .null])), (q1, .inl (cy 0, 60, .inl (fun _ => 0)))]) := hD
  refine z_put (ci := 0) (k := 2) (i := 0) (v := .ref q1) hx hb hts hown hK hP hD hS (by decide) (by decide) rfl wk264 hin rfl rfl rfl (Nat.le_of_ble_eq_true rfl) dX0_init_9 (fun H locs hP hD hS => ?_)
  have hP : va_P D clss (W0 ++ [(h0, .inr (0, [.int 0, .int 0, .ref q1, .null, .null, .null])), (q1, .inl (cy 0, 60, .inl (fun _ => 0)))]) H := hP
  have hD : va_D A (W0 ++ [(h0, .inr (0, [.int 0, .int 0, .ref q1, .null, .null, .null])), (q1, .inl (cy 0, 60, .inl (fun _ => 0)))]) := hD
  refine lv_aload_n hx hb dX0_init_12 rfl (lv_at hl 0 rfl) ?_
  refine lv_bipush (v := 60) hx hb dX0_init_13 (by decide) ?_
  refine z_newa (atype := .int) (ty := .int) (t0 := 0) (a0 := (60, .inl (fun _ => 0))) hx hb hts wk86 rfl rfl (fun C h => by cases h) hK hP hD hS hA (fun _ => rfl) (by decide) rfl (by decide) (Nat.le_of_ble_eq_true rfl) (Nat.le_of_ble_eq_true rfl) dX0_init_15 (fun q2 H hP hD hS => ?_)
  have hP : va_P D clss (W0 ++ [(h0, .inr (0, [.int 0, .int 0, .ref q1, .null, .null, .null])), (q1, .inl (cy 0, 60, .inl (fun _ => 0))), (q2, .inl (cy 0, 60, .inl (fun _ => 0)))]) H := hP
  have hD : va_D A (W0 ++ [(h0, .inr (0, [.int 0, .int 0, .ref q1, .null, .null, .null])), (q1, .inl (cy 0, 60, .inl (fun _ => 0))), (q2, .inl (cy 0, 60, .inl (fun _ => 0)))]) := hD
  refine z_put (ci := 0) (k := 3) (i := 0) (v := .ref q2) hx hb hts hown hK hP hD hS (by decide) (by decide) rfl wk265 hin rfl rfl rfl (Nat.le_of_ble_eq_true rfl) dX0_init_17 (fun H locs hP hD hS => ?_)
  have hP : va_P D clss (W0 ++ [(h0, .inr (0, [.int 0, .int 0, .ref q1, .ref q2, .null, .null])), (q1, .inl (cy 0, 60, .inl (fun _ => 0))), (q2, .inl (cy 0, 60, .inl (fun _ => 0)))]) H := hP
  have hD : va_D A (W0 ++ [(h0, .inr (0, [.int 0, .int 0, .ref q1, .ref q2, .null, .null])), (q1, .inl (cy 0, 60, .inl (fun _ => 0))), (q2, .inl (cy 0, 60, .inl (fun _ => 0)))]) := hD
  refine lv_aload_n hx hb dX0_init_20 rfl (lv_at hl 0 rfl) ?_
  refine lv_bipush (v := 60) hx hb dX0_init_21 (by decide) ?_
  refine z_newa (atype := .int) (ty := .int) (t0 := 0) (a0 := (60, .inl (fun _ => 0))) hx hb hts wk86 rfl rfl (fun C h => by cases h) hK hP hD hS hA (fun _ => rfl) (by decide) rfl (by decide) (Nat.le_of_ble_eq_true rfl) (Nat.le_of_ble_eq_true rfl) dX0_init_23 (fun q3 H hP hD hS => ?_)
  have hP : va_P D clss (W0 ++ [(h0, .inr (0, [.int 0, .int 0, .ref q1, .ref q2, .null, .null])), (q1, .inl (cy 0, 60, .inl (fun _ => 0))), (q2, .inl (cy 0, 60, .inl (fun _ => 0))), (q3, .inl (cy 0, 60, .inl (fun _ => 0)))]) H := hP
  have hD : va_D A (W0 ++ [(h0, .inr (0, [.int 0, .int 0, .ref q1, .ref q2, .null, .null])), (q1, .inl (cy 0, 60, .inl (fun _ => 0))), (q2, .inl (cy 0, 60, .inl (fun _ => 0))), (q3, .inl (cy 0, 60, .inl (fun _ => 0)))]) := hD
  refine z_put (ci := 0) (k := 4) (i := 0) (v := .ref q3) hx hb hts hown hK hP hD hS (by decide) (by decide) rfl wk266 hin rfl rfl rfl (Nat.le_of_ble_eq_true rfl) dX0_init_25 (fun H locs hP hD hS => ?_)
  have hP : va_P D clss (W0 ++ [(h0, .inr (0, [.int 0, .int 0, .ref q1, .ref q2, .ref q3, .null])), (q1, .inl (cy 0, 60, .inl (fun _ => 0))), (q2, .inl (cy 0, 60, .inl (fun _ => 0))), (q3, .inl (cy 0, 60, .inl (fun _ => 0)))]) H := hP
  have hD : va_D A (W0 ++ [(h0, .inr (0, [.int 0, .int 0, .ref q1, .ref q2, .ref q3, .null])), (q1, .inl (cy 0, 60, .inl (fun _ => 0))), (q2, .inl (cy 0, 60, .inl (fun _ => 0))), (q3, .inl (cy 0, 60, .inl (fun _ => 0)))]) := hD
  refine lv_aload_n hx hb dX0_init_28 rfl (lv_at hl 0 rfl) ?_
  refine lv_bipush (v := 60) hx hb dX0_init_29 (by decide) ?_
  refine z_newa (atype := .int) (ty := .int) (t0 := 0) (a0 := (60, .inl (fun _ => 0))) hx hb hts wk86 rfl rfl (fun C h => by cases h) hK hP hD hS hA (fun _ => rfl) (by decide) rfl (by decide) (Nat.le_of_ble_eq_true rfl) (Nat.le_of_ble_eq_true rfl) dX0_init_31 (fun q4 H hP hD hS => ?_)
  have hP : va_P D clss (W0 ++ [(h0, .inr (0, [.int 0, .int 0, .ref q1, .ref q2, .ref q3, .null])), (q1, .inl (cy 0, 60, .inl (fun _ => 0))), (q2, .inl (cy 0, 60, .inl (fun _ => 0))), (q3, .inl (cy 0, 60, .inl (fun _ => 0))), (q4, .inl (cy 0, 60, .inl (fun _ => 0)))]) H := hP
  have hD : va_D A (W0 ++ [(h0, .inr (0, [.int 0, .int 0, .ref q1, .ref q2, .ref q3, .null])), (q1, .inl (cy 0, 60, .inl (fun _ => 0))), (q2, .inl (cy 0, 60, .inl (fun _ => 0))), (q3, .inl (cy 0, 60, .inl (fun _ => 0))), (q4, .inl (cy 0, 60, .inl (fun _ => 0)))]) := hD
  refine z_put (ci := 0) (k := 5) (i := 0) (v := .ref q4) hx hb hts hown hK hP hD hS (by decide) (by decide) rfl wk267 hin rfl rfl rfl (Nat.le_of_ble_eq_true rfl) dX0_init_33 (fun H locs hP hD hS => ?_)
  have hP : va_P D clss (W0 ++ [(h0, .inr (0, [.int 0, .int 0, .ref q1, .ref q2, .ref q3, .ref q4])), (q1, .inl (cy 0, 60, .inl (fun _ => 0))), (q2, .inl (cy 0, 60, .inl (fun _ => 0))), (q3, .inl (cy 0, 60, .inl (fun _ => 0))), (q4, .inl (cy 0, 60, .inl (fun _ => 0)))]) H := hP
  have hD : va_D A (W0 ++ [(h0, .inr (0, [.int 0, .int 0, .ref q1, .ref q2, .ref q3, .ref q4])), (q1, .inl (cy 0, 60, .inl (fun _ => 0))), (q2, .inl (cy 0, 60, .inl (fun _ => 0))), (q3, .inl (cy 0, 60, .inl (fun _ => 0))), (q4, .inl (cy 0, 60, .inl (fun _ => 0)))]) := hD
  exact W.vret hx hb hr (fun t ht hW => ⟨rfl, _, ⟨q1, q2, q3, q4, rfl⟩, by rw [ht]; exact hP, hD, hS.F ht⟩) hS.2.2 dX0_init_36 hlocks

set_option maxRecDepth 100000 in
set_option maxHeartbeats 8000000 in
theorem kX4 (l : Launch) (D : va_G) (cy : Nat → ClassId) (A : Nat → Prop) (W0 : va_W) (h0 : Nat) : Met l yX4_init (.code yX4_init cX4_init 1 none :: gt) (rmc 1 5 320) (Pk D cy A [.ref h0] (W0 ++ [(h0, .inr (4, [.null, .null, .null, .null, .null, .null, .int 0, .int 0, .int 0]))])) (Qk D A (fun w => ∃ q1 q2 q3 q4 q5 : Nat, w = W0 ++ [(h0, .inr (4, [.ref q1, .ref q2, .ref q3, .ref q4, .ref q5, .null, .int 0, .int 0, .int 0])), (q1, .inl (cy 0, 16, .inl (fun _ => 0))), (q2, .inl (cy 0, 16, .inl (fun _ => 0))), (q3, .inl (cy 0, 256, .inl (fun _ => 0))), (q4, .inl (cy 0, 16, .inl (fun _ => 0))), (q5, .inl (cy 0, 16, .inl (fun _ => 0)))])) 5 320 A := by
  refine Met.ofW (cc := cX4_init) (maxL := 1) (ret := none) (by decide +kernel) rfl ?_
  intro p e s m args below meth c s₁ B hml hv
  obtain ⟨rfl, hK, hP, hD, hA, hN⟩ := hv
  have hx := B.exec
  have hb := B.bytes
  have hr := B.returns
  have hts0 := atoms_spec (ws := .code yX4_init cX4_init 1 none :: gt) B.pre
  have hts : ∀ w ∈ gt, w.before ([.ref h0] : List Value).toArray s = true := fun w hw => hts0 w (List.mem_cons_of_mem _ hw)
  have hown : s.vm.findClass RX4 = some m.cls := findClass_of_methodNamed B.named
  have hlocks := B.notSynchronized
  have hin : meth.name = "<init>" := (name_of_methodNamed B.named B.method).1
  have hS : va_S A s.heap s.heap [] := va_S.rf
  have hl := lv_entry ([.ref h0]) (n := 1) (Nat.le_of_ble_eq_true rfl)
  rw [lg_entry_eq]
  generalize (lg_sl ([.ref h0]) ++ List.replicate (1 - (lg_sl ([.ref h0])).length) Slot.unset).toArray = ls at hl ⊢
  have hl : lv_has ls 1 [(0, .ref h0)] := hl
  refine lv_aload_n hx hb dX4_init_0 rfl (lv_at hl 0 rfl) ?_
  refine W.objInit hx hb hown (hts _ wk287) (hts _ wk30) (hts _ wk31) rfl (by rw [hml]; exact hl.1) rfl dX4_init_1 (Nat.le_of_ble_eq_true rfl) (Nat.le_of_ble_eq_true rfl) ?_
  refine lv_aload_n hx hb dX4_init_4 rfl (lv_at hl 0 rfl) ?_
  refine lv_bipush (v := 16) hx hb dX4_init_5 (by decide) ?_
  refine z_newa (atype := .int) (ty := .int) (t0 := 0) (a0 := (16, .inl (fun _ => 0))) hx hb hts wk86 rfl rfl (fun C h => by cases h) hK hP hD hS hA (fun _ => rfl) (by decide) rfl (by decide) (Nat.le_of_ble_eq_true rfl) (Nat.le_of_ble_eq_true rfl) dX4_init_7 (fun q1 H hP hD hS => ?_)
  have hP : va_P D clss (W0 ++ [(h0, .inr (4, [.null, .null, .null, .null, .null, .null, .int 0, .int 0, .int 0])), (q1, .inl (cy 0, 16, .inl (fun _ => 0)))]) H := hP
  have hD : va_D A (W0 ++ [(h0, .inr (4, [.null, .null, .null, .null, .null, .null, .int 0, .int 0, .int 0])), (q1, .inl (cy 0, 16, .inl (fun _ => 0)))]) := hD
  refine z_put (ci := 4) (k := 0) (i := 0) (v := .ref q1) hx hb hts hown hK hP hD hS (by decide) (by decide) rfl wk288 hin rfl rfl rfl (Nat.le_of_ble_eq_true rfl) dX4_init_9 (fun H locs hP hD hS => ?_)
  have hP : va_P D clss (W0 ++ [(h0, .inr (4, [.ref q1, .null, .null, .null, .null, .null, .int 0, .int 0, .int 0])), (q1, .inl (cy 0, 16, .inl (fun _ => 0)))]) H := hP
  have hD : va_D A (W0 ++ [(h0, .inr (4, [.ref q1, .null, .null, .null, .null, .null, .int 0, .int 0, .int 0])), (q1, .inl (cy 0, 16, .inl (fun _ => 0)))]) := hD
  refine lv_aload_n hx hb dX4_init_12 rfl (lv_at hl 0 rfl) ?_
  refine lv_bipush (v := 16) hx hb dX4_init_13 (by decide) ?_
  refine z_newa (atype := .int) (ty := .int) (t0 := 0) (a0 := (16, .inl (fun _ => 0))) hx hb hts wk86 rfl rfl (fun C h => by cases h) hK hP hD hS hA (fun _ => rfl) (by decide) rfl (by decide) (Nat.le_of_ble_eq_true rfl) (Nat.le_of_ble_eq_true rfl) dX4_init_15 (fun q2 H hP hD hS => ?_)
  have hP : va_P D clss (W0 ++ [(h0, .inr (4, [.ref q1, .null, .null, .null, .null, .null, .int 0, .int 0, .int 0])), (q1, .inl (cy 0, 16, .inl (fun _ => 0))), (q2, .inl (cy 0, 16, .inl (fun _ => 0)))]) H := hP
  have hD : va_D A (W0 ++ [(h0, .inr (4, [.ref q1, .null, .null, .null, .null, .null, .int 0, .int 0, .int 0])), (q1, .inl (cy 0, 16, .inl (fun _ => 0))), (q2, .inl (cy 0, 16, .inl (fun _ => 0)))]) := hD
  refine z_put (ci := 4) (k := 1) (i := 0) (v := .ref q2) hx hb hts hown hK hP hD hS (by decide) (by decide) rfl wk290 hin rfl rfl rfl (Nat.le_of_ble_eq_true rfl) dX4_init_17 (fun H locs hP hD hS => ?_)
  have hP : va_P D clss (W0 ++ [(h0, .inr (4, [.ref q1, .ref q2, .null, .null, .null, .null, .int 0, .int 0, .int 0])), (q1, .inl (cy 0, 16, .inl (fun _ => 0))), (q2, .inl (cy 0, 16, .inl (fun _ => 0)))]) H := hP
  have hD : va_D A (W0 ++ [(h0, .inr (4, [.ref q1, .ref q2, .null, .null, .null, .null, .int 0, .int 0, .int 0])), (q1, .inl (cy 0, 16, .inl (fun _ => 0))), (q2, .inl (cy 0, 16, .inl (fun _ => 0)))]) := hD
  refine lv_aload_n hx hb dX4_init_20 rfl (lv_at hl 0 rfl) ?_
  refine lv_sipush (v := 256) hx hb dX4_init_21 (by decide) ?_
  refine z_newa (atype := .int) (ty := .int) (t0 := 0) (a0 := (256, .inl (fun _ => 0))) hx hb hts wk86 rfl rfl (fun C h => by cases h) hK hP hD hS hA (fun _ => rfl) (by decide) rfl (by decide) (Nat.le_of_ble_eq_true rfl) (Nat.le_of_ble_eq_true rfl) dX4_init_24 (fun q3 H hP hD hS => ?_)
  have hP : va_P D clss (W0 ++ [(h0, .inr (4, [.ref q1, .ref q2, .null, .null, .null, .null, .int 0, .int 0, .int 0])), (q1, .inl (cy 0, 16, .inl (fun _ => 0))), (q2, .inl (cy 0, 16, .inl (fun _ => 0))), (q3, .inl (cy 0, 256, .inl (fun _ => 0)))]) H := hP
  have hD : va_D A (W0 ++ [(h0, .inr (4, [.ref q1, .ref q2, .null, .null, .null, .null, .int 0, .int 0, .int 0])), (q1, .inl (cy 0, 16, .inl (fun _ => 0))), (q2, .inl (cy 0, 16, .inl (fun _ => 0))), (q3, .inl (cy 0, 256, .inl (fun _ => 0)))]) := hD
  refine z_put (ci := 4) (k := 2) (i := 0) (v := .ref q3) hx hb hts hown hK hP hD hS (by decide) (by decide) rfl wk291 hin rfl rfl rfl (Nat.le_of_ble_eq_true rfl) dX4_init_26 (fun H locs hP hD hS => ?_)
  have hP : va_P D clss (W0 ++ [(h0, .inr (4, [.ref q1, .ref q2, .ref q3, .null, .null, .null, .int 0, .int 0, .int 0])), (q1, .inl (cy 0, 16, .inl (fun _ => 0))), (q2, .inl (cy 0, 16, .inl (fun _ => 0))), (q3, .inl (cy 0, 256, .inl (fun _ => 0)))]) H := hP
  have hD : va_D A (W0 ++ [(h0, .inr (4, [.ref q1, .ref q2, .ref q3, .null, .null, .null, .int 0, .int 0, .int 0])), (q1, .inl (cy 0, 16, .inl (fun _ => 0))), (q2, .inl (cy 0, 16, .inl (fun _ => 0))), (q3, .inl (cy 0, 256, .inl (fun _ => 0)))]) := hD
  refine lv_aload_n hx hb dX4_init_29 rfl (lv_at hl 0 rfl) ?_
  refine lv_bipush (v := 16) hx hb dX4_init_30 (by decide) ?_
  refine z_newa (atype := .int) (ty := .int) (t0 := 0) (a0 := (16, .inl (fun _ => 0))) hx hb hts wk86 rfl rfl (fun C h => by cases h) hK hP hD hS hA (fun _ => rfl) (by decide) rfl (by decide) (Nat.le_of_ble_eq_true rfl) (Nat.le_of_ble_eq_true rfl) dX4_init_32 (fun q4 H hP hD hS => ?_)
  have hP : va_P D clss (W0 ++ [(h0, .inr (4, [.ref q1, .ref q2, .ref q3, .null, .null, .null, .int 0, .int 0, .int 0])), (q1, .inl (cy 0, 16, .inl (fun _ => 0))), (q2, .inl (cy 0, 16, .inl (fun _ => 0))), (q3, .inl (cy 0, 256, .inl (fun _ => 0))), (q4, .inl (cy 0, 16, .inl (fun _ => 0)))]) H := hP
  have hD : va_D A (W0 ++ [(h0, .inr (4, [.ref q1, .ref q2, .ref q3, .null, .null, .null, .int 0, .int 0, .int 0])), (q1, .inl (cy 0, 16, .inl (fun _ => 0))), (q2, .inl (cy 0, 16, .inl (fun _ => 0))), (q3, .inl (cy 0, 256, .inl (fun _ => 0))), (q4, .inl (cy 0, 16, .inl (fun _ => 0)))]) := hD
  refine z_put (ci := 4) (k := 3) (i := 0) (v := .ref q4) hx hb hts hown hK hP hD hS (by decide) (by decide) rfl wk292 hin rfl rfl rfl (Nat.le_of_ble_eq_true rfl) dX4_init_34 (fun H locs hP hD hS => ?_)
  have hP : va_P D clss (W0 ++ [(h0, .inr (4, [.ref q1, .ref q2, .ref q3, .ref q4, .null, .null, .int 0, .int 0, .int 0])), (q1, .inl (cy 0, 16, .inl (fun _ => 0))), (q2, .inl (cy 0, 16, .inl (fun _ => 0))), (q3, .inl (cy 0, 256, .inl (fun _ => 0))), (q4, .inl (cy 0, 16, .inl (fun _ => 0)))]) H := hP
  have hD : va_D A (W0 ++ [(h0, .inr (4, [.ref q1, .ref q2, .ref q3, .ref q4, .null, .null, .int 0, .int 0, .int 0])), (q1, .inl (cy 0, 16, .inl (fun _ => 0))), (q2, .inl (cy 0, 16, .inl (fun _ => 0))), (q3, .inl (cy 0, 256, .inl (fun _ => 0))), (q4, .inl (cy 0, 16, .inl (fun _ => 0)))]) := hD
  refine lv_aload_n hx hb dX4_init_37 rfl (lv_at hl 0 rfl) ?_
  refine lv_bipush (v := 16) hx hb dX4_init_38 (by decide) ?_
  refine z_newa (atype := .int) (ty := .int) (t0 := 0) (a0 := (16, .inl (fun _ => 0))) hx hb hts wk86 rfl rfl (fun C h => by cases h) hK hP hD hS hA (fun _ => rfl) (by decide) rfl (by decide) (Nat.le_of_ble_eq_true rfl) (Nat.le_of_ble_eq_true rfl) dX4_init_40 (fun q5 H hP hD hS => ?_)
  have hP : va_P D clss (W0 ++ [(h0, .inr (4, [.ref q1, .ref q2, .ref q3, .ref q4, .null, .null, .int 0, .int 0, .int 0])), (q1, .inl (cy 0, 16, .inl (fun _ => 0))), (q2, .inl (cy 0, 16, .inl (fun _ => 0))), (q3, .inl (cy 0, 256, .inl (fun _ => 0))), (q4, .inl (cy 0, 16, .inl (fun _ => 0))), (q5, .inl (cy 0, 16, .inl (fun _ => 0)))]) H := hP
  have hD : va_D A (W0 ++ [(h0, .inr (4, [.ref q1, .ref q2, .ref q3, .ref q4, .null, .null, .int 0, .int 0, .int 0])), (q1, .inl (cy 0, 16, .inl (fun _ => 0))), (q2, .inl (cy 0, 16, .inl (fun _ => 0))), (q3, .inl (cy 0, 256, .inl (fun _ => 0))), (q4, .inl (cy 0, 16, .inl (fun _ => 0))), (q5, .inl (cy 0, 16, .inl (fun _ => 0)))]) := hD
  refine z_put (ci := 4) (k := 4) (i := 0) (v := .ref q5) hx hb hts hown hK hP hD hS (by decide) (by decide) rfl wk293 hin rfl rfl rfl (Nat.le_of_ble_eq_true rfl) dX4_init_42 (fun H locs hP hD hS => ?_)
  have hP : va_P D clss (W0 ++ [(h0, .inr (4, [.ref q1, .ref q2, .ref q3, .ref q4, .ref q5, .null, .int 0, .int 0, .int 0])), (q1, .inl (cy 0, 16, .inl (fun _ => 0))), (q2, .inl (cy 0, 16, .inl (fun _ => 0))), (q3, .inl (cy 0, 256, .inl (fun _ => 0))), (q4, .inl (cy 0, 16, .inl (fun _ => 0))), (q5, .inl (cy 0, 16, .inl (fun _ => 0)))]) H := hP
  have hD : va_D A (W0 ++ [(h0, .inr (4, [.ref q1, .ref q2, .ref q3, .ref q4, .ref q5, .null, .int 0, .int 0, .int 0])), (q1, .inl (cy 0, 16, .inl (fun _ => 0))), (q2, .inl (cy 0, 16, .inl (fun _ => 0))), (q3, .inl (cy 0, 256, .inl (fun _ => 0))), (q4, .inl (cy 0, 16, .inl (fun _ => 0))), (q5, .inl (cy 0, 16, .inl (fun _ => 0)))]) := hD
  exact W.vret hx hb hr (fun t ht hW => ⟨rfl, _, ⟨q1, q2, q3, q4, q5, rfl⟩, by rw [ht]; exact hP, hD, hS.F ht⟩) hS.2.2 dX4_init_45 hlocks

set_option maxRecDepth 100000 in
set_option maxHeartbeats 8000000 in
theorem kX7 (l : Launch) (D : va_G) (cy : Nat → ClassId) (A : Nat → Prop) (W0 : va_W) (h0 a1 : Nat) : Met l yX7_init (.code yX7_init cX7_init 2 none :: gt) (rmc 2 8 101) (Pk D cy A [.ref h0, .ref a1] (W0 ++ [(h0, .inr (7, [.null, .null, .null, .null, .null, .null, .null, .int 0, .null, .null]))])) (Qk D A (fun w => ∃ q1 q2 q3 q4 q5 q6 q7 q8 : Nat, w = W0 ++ [(h0, .inr (7, [.ref a1, .ref q1, .ref q2, .ref q3, .ref q4, .ref q5, .ref q6, .int 0, .ref q7, .ref q8])), (q1, .inl (cy 0, 16, .inl (fun _ => 0))), (q2, .inl (cy 1, 16, .inr (.inl (fun _ => 0)))), (q3, .inl (cy 1, 16, .inr (.inl (fun _ => 0)))), (q4, .inr (5, [.long 0, .long 1])), (q5, .inl (cy 0, 16, .inl (fun _ => 0))), (q6, .inl (cy 0, 16, .inl (fun _ => 0))), (q7, .inl (cy 0, 17, .inl (fun _ => 0))), (q8, .inr (5, [.long 0, .long 1]))])) 8 101 A := by
  refine Met.ofW (cc := cX7_init) (maxL := 2) (ret := none) (by decide +kernel) rfl ?_
  intro p e s m args below meth c s₁ B hml hv
  obtain ⟨rfl, hK, hP, hD, hA, hN⟩ := hv
  have hx := B.exec
  have hb := B.bytes
  have hr := B.returns
  have hts0 := atoms_spec (ws := .code yX7_init cX7_init 2 none :: gt) B.pre
  have hts : ∀ w ∈ gt, w.before ([.ref h0, .ref a1] : List Value).toArray s = true := fun w hw => hts0 w (List.mem_cons_of_mem _ hw)
  have hown : s.vm.findClass RX7 = some m.cls := findClass_of_methodNamed B.named
  have hlocks := B.notSynchronized
  have hin : meth.name = "<init>" := (name_of_methodNamed B.named B.method).1
  have hS : va_S A s.heap s.heap [] := va_S.rf
  have hl := lv_entry ([.ref h0, .ref a1]) (n := 2) (Nat.le_of_ble_eq_true rfl)
  rw [lg_entry_eq]
  generalize (lg_sl ([.ref h0, .ref a1]) ++ List.replicate (2 - (lg_sl ([.ref h0, .ref a1])).length) Slot.unset).toArray = ls at hl ⊢
  have hl : lv_has ls 2 [(0, .ref h0), (1, .ref a1)] := hl
  refine lv_aload_n hx hb dX7_init_0 rfl (lv_at hl 0 rfl) ?_
  refine W.objInit hx hb hown (hts _ wk322) (hts _ wk30) (hts _ wk31) rfl (by rw [hml]; exact hl.1) rfl dX7_init_1 (Nat.le_of_ble_eq_true rfl) (Nat.le_of_ble_eq_true rfl) ?_
  refine lv_aload_n hx hb dX7_init_4 rfl (lv_at hl 0 rfl) ?_
  refine lv_bipush (v := 16) hx hb dX7_init_5 (by decide) ?_
  refine z_newa (atype := .int) (ty := .int) (t0 := 0) (a0 := (16, .inl (fun _ => 0))) hx hb hts wk86 rfl rfl (fun C h => by cases h) hK hP hD hS hA (fun _ => rfl) (by decide) rfl (by decide) (Nat.le_of_ble_eq_true rfl) (Nat.le_of_ble_eq_true rfl) dX7_init_7 (fun q1 H hP hD hS => ?_)
  have hP : va_P D clss (W0 ++ [(h0, .inr (7, [.null, .null, .null, .null, .null, .null, .null, .int 0, .null, .null])), (q1, .inl (cy 0, 16, .inl (fun _ => 0)))]) H := hP
  have hD : va_D A (W0 ++ [(h0, .inr (7, [.null, .null, .null, .null, .null, .null, .null, .int 0, .null, .null])), (q1, .inl (cy 0, 16, .inl (fun _ => 0)))]) := hD
  refine z_put (ci := 7) (k := 1) (i := 0) (v := .ref q1) hx hb hts hown hK hP hD hS (by decide) (by decide) rfl wk343 hin rfl rfl rfl (Nat.le_of_ble_eq_true rfl) dX7_init_9 (fun H locs hP hD hS => ?_)
  have hP : va_P D clss (W0 ++ [(h0, .inr (7, [.null, .ref q1, .null, .null, .null, .null, .null, .int 0, .null, .null])), (q1, .inl (cy 0, 16, .inl (fun _ => 0)))]) H := hP
  have hD : va_D A (W0 ++ [(h0, .inr (7, [.null, .ref q1, .null, .null, .null, .null, .null, .int 0, .null, .null])), (q1, .inl (cy 0, 16, .inl (fun _ => 0)))]) := hD
  refine lv_aload_n hx hb dX7_init_12 rfl (lv_at hl 0 rfl) ?_
  refine lv_bipush (v := 16) hx hb dX7_init_13 (by decide) ?_
  refine z_newa (atype := .long) (ty := .long) (t0 := 1) (a0 := (16, .inr (.inl (fun _ => 0)))) hx hb hts wk87 rfl rfl (fun C h => by cases h) hK hP hD hS hA (fun _ => rfl) (by decide) rfl (by decide) (Nat.le_of_ble_eq_true rfl) (Nat.le_of_ble_eq_true rfl) dX7_init_15 (fun q2 H hP hD hS => ?_)
  have hP : va_P D clss (W0 ++ [(h0, .inr (7, [.null, .ref q1, .null, .null, .null, .null, .null, .int 0, .null, .null])), (q1, .inl (cy 0, 16, .inl (fun _ => 0))), (q2, .inl (cy 1, 16, .inr (.inl (fun _ => 0))))]) H := hP
  have hD : va_D A (W0 ++ [(h0, .inr (7, [.null, .ref q1, .null, .null, .null, .null, .null, .int 0, .null, .null])), (q1, .inl (cy 0, 16, .inl (fun _ => 0))), (q2, .inl (cy 1, 16, .inr (.inl (fun _ => 0))))]) := hD
  refine z_put (ci := 7) (k := 2) (i := 0) (v := .ref q2) hx hb hts hown hK hP hD hS (by decide) (by decide) rfl wk345 hin rfl rfl rfl (Nat.le_of_ble_eq_true rfl) dX7_init_17 (fun H locs hP hD hS => ?_)
  have hP : va_P D clss (W0 ++ [(h0, .inr (7, [.null, .ref q1, .ref q2, .null, .null, .null, .null, .int 0, .null, .null])), (q1, .inl (cy 0, 16, .inl (fun _ => 0))), (q2, .inl (cy 1, 16, .inr (.inl (fun _ => 0))))]) H := hP
  have hD : va_D A (W0 ++ [(h0, .inr (7, [.null, .ref q1, .ref q2, .null, .null, .null, .null, .int 0, .null, .null])), (q1, .inl (cy 0, 16, .inl (fun _ => 0))), (q2, .inl (cy 1, 16, .inr (.inl (fun _ => 0))))]) := hD
  refine lv_aload_n hx hb dX7_init_20 rfl (lv_at hl 0 rfl) ?_
  refine lv_bipush (v := 16) hx hb dX7_init_21 (by decide) ?_
  refine z_newa (atype := .long) (ty := .long) (t0 := 1) (a0 := (16, .inr (.inl (fun _ => 0)))) hx hb hts wk87 rfl rfl (fun C h => by cases h) hK hP hD hS hA (fun _ => rfl) (by decide) rfl (by decide) (Nat.le_of_ble_eq_true rfl) (Nat.le_of_ble_eq_true rfl) dX7_init_23 (fun q3 H hP hD hS => ?_)
  have hP : va_P D clss (W0 ++ [(h0, .inr (7, [.null, .ref q1, .ref q2, .null, .null, .null, .null, .int 0, .null, .null])), (q1, .inl (cy 0, 16, .inl (fun _ => 0))), (q2, .inl (cy 1, 16, .inr (.inl (fun _ => 0)))), (q3, .inl (cy 1, 16, .inr (.inl (fun _ => 0))))]) H := hP
  have hD : va_D A (W0 ++ [(h0, .inr (7, [.null, .ref q1, .ref q2, .null, .null, .null, .null, .int 0, .null, .null])), (q1, .inl (cy 0, 16, .inl (fun _ => 0))), (q2, .inl (cy 1, 16, .inr (.inl (fun _ => 0)))), (q3, .inl (cy 1, 16, .inr (.inl (fun _ => 0))))]) := hD
  refine z_put (ci := 7) (k := 3) (i := 0) (v := .ref q3) hx hb hts hown hK hP hD hS (by decide) (by decide) rfl wk347 hin rfl rfl rfl (Nat.le_of_ble_eq_true rfl) dX7_init_25 (fun H locs hP hD hS => ?_)
  have hP : va_P D clss (W0 ++ [(h0, .inr (7, [.null, .ref q1, .ref q2, .ref q3, .null, .null, .null, .int 0, .null, .null])), (q1, .inl (cy 0, 16, .inl (fun _ => 0))), (q2, .inl (cy 1, 16, .inr (.inl (fun _ => 0)))), (q3, .inl (cy 1, 16, .inr (.inl (fun _ => 0))))]) H := hP
  have hD : va_D A (W0 ++ [(h0, .inr (7, [.null, .ref q1, .ref q2, .ref q3, .null, .null, .null, .int 0, .null, .null])), (q1, .inl (cy 0, 16, .inl (fun _ => 0))), (q2, .inl (cy 1, 16, .inr (.inl (fun _ => 0)))), (q3, .inl (cy 1, 16, .inr (.inl (fun _ => 0))))]) := hD
  refine lv_aload_n hx hb dX7_init_28 rfl (lv_at hl 0 rfl) ?_
  refine z_new (ci := 5) (fs := [.long 0, .long 0]) hx hb hts hown hK hP hD hS hA (by decide) wk323 wk324 wk10 (by decide +kernel) (Nat.le_of_ble_eq_true rfl) (Nat.le_of_ble_eq_true rfl) dX7_init_29 (fun q4 H hP hD hS => ?_)
  have hP : va_P D clss (W0 ++ [(h0, .inr (7, [.null, .ref q1, .ref q2, .ref q3, .null, .null, .null, .int 0, .null, .null])), (q1, .inl (cy 0, 16, .inl (fun _ => 0))), (q2, .inl (cy 1, 16, .inr (.inl (fun _ => 0)))), (q3, .inl (cy 1, 16, .inr (.inl (fun _ => 0)))), (q4, .inr (5, [.long 0, .long 0]))]) H := hP
  have hD : va_D A (W0 ++ [(h0, .inr (7, [.null, .ref q1, .ref q2, .ref q3, .null, .null, .null, .int 0, .null, .null])), (q1, .inl (cy 0, 16, .inl (fun _ => 0))), (q2, .inl (cy 1, 16, .inr (.inl (fun _ => 0)))), (q3, .inl (cy 1, 16, .inr (.inl (fun _ => 0)))), (q4, .inr (5, [.long 0, .long 0]))]) := hD
  refine lv_dup hx hb dX7_init_32 rfl ?_
  refine z_call (va_runIN (As := []) (rest := [.ref q4, .ref h0]) ⟨hx, hb, hml, hown, hts⟩ (kX5 l D cy A (W0 ++ [(h0, .inr (7, [.null, .ref q1, .ref q2, .ref q3, .null, .null, .null, .int 0, .null, .null])), (q1, .inl (cy 0, 16, .inl (fun _ => 0))), (q2, .inl (cy 1, 16, .inr (.inl (fun _ => 0)))), (q3, .inl (cy 1, 16, .inr (.inl (fun _ => 0))))]) q4 ) ⟨va_cnB 0 hts (good_gt wk327) rfl rfl rfl (hN.1 (.methodLinkNest RX7 24 yX5_init "LikeYears") (by decide +kernel)) (hts _ wk10) (by decide +kernel) ⟨Nat.le_of_ble_eq_true rfl, Nat.le_of_ble_eq_true rfl⟩, rfl, hts _ wk326⟩ ⟨Pk_blind, fun U hU hW => ⟨rfl, va_K.moved hW.alike hK, by rw [hU, List.append_assoc]; exact hP, by rw [List.append_assoc]; exact hD, fun q hq => hA q (Nat.le_trans hS.1 (by rw [← hU]; exact hq)), NW.warm hW hN⟩⟩ rfl rfl hl.1 rfl (lv_room (Nat.le_of_ble_eq_true rfl)) dX7_init_33 ⟨Nat.le_of_ble_eq_true rfl, Nat.le_of_ble_eq_true rfl⟩) hS (fun w H locs hΦ hP hD hS => ?_)
  subst hΦ
  rw [List.append_assoc] at hP hD
  have hP : va_P D clss (W0 ++ [(h0, .inr (7, [.null, .ref q1, .ref q2, .ref q3, .null, .null, .null, .int 0, .null, .null])), (q1, .inl (cy 0, 16, .inl (fun _ => 0))), (q2, .inl (cy 1, 16, .inr (.inl (fun _ => 0)))), (q3, .inl (cy 1, 16, .inr (.inl (fun _ => 0)))), (q4, .inr (5, [.long 0, .long 1]))]) H := hP
  have hD : va_D A (W0 ++ [(h0, .inr (7, [.null, .ref q1, .ref q2, .ref q3, .null, .null, .null, .int 0, .null, .null])), (q1, .inl (cy 0, 16, .inl (fun _ => 0))), (q2, .inl (cy 1, 16, .inr (.inl (fun _ => 0)))), (q3, .inl (cy 1, 16, .inr (.inl (fun _ => 0)))), (q4, .inr (5, [.long 0, .long 1]))]) := hD
  refine z_put (ci := 7) (k := 4) (i := 0) (v := .ref q4) hx hb hts hown hK hP hD hS (by decide) (by decide) rfl wk349 hin rfl rfl rfl (Nat.le_of_ble_eq_true rfl) dX7_init_36 (fun H locs hP hD hS => ?_)
  have hP : va_P D clss (W0 ++ [(h0, .inr (7, [.null, .ref q1, .ref q2, .ref q3, .ref q4, .null, .null, .int 0, .null, .null])), (q1, .inl (cy 0, 16, .inl (fun _ => 0))), (q2, .inl (cy 1, 16, .inr (.inl (fun _ => 0)))), (q3, .inl (cy 1, 16, .inr (.inl (fun _ => 0)))), (q4, .inr (5, [.long 0, .long 1]))]) H := hP
  have hD : va_D A (W0 ++ [(h0, .inr (7, [.null, .ref q1, .ref q2, .ref q3, .ref q4, .null, .null, .int 0, .null, .null])), (q1, .inl (cy 0, 16, .inl (fun _ => 0))), (q2, .inl (cy 1, 16, .inr (.inl (fun _ => 0)))), (q3, .inl (cy 1, 16, .inr (.inl (fun _ => 0)))), (q4, .inr (5, [.long 0, .long 1]))]) := hD
  refine lv_aload_n hx hb dX7_init_39 rfl (lv_at hl 0 rfl) ?_
  refine lv_bipush (v := 16) hx hb dX7_init_40 (by decide) ?_
  refine z_newa (atype := .int) (ty := .int) (t0 := 0) (a0 := (16, .inl (fun _ => 0))) hx hb hts wk86 rfl rfl (fun C h => by cases h) hK hP hD hS hA (fun _ => rfl) (by decide) rfl (by decide) (Nat.le_of_ble_eq_true rfl) (Nat.le_of_ble_eq_true rfl) dX7_init_42 (fun q5 H hP hD hS => ?_)
  have hP : va_P D clss (W0 ++ [(h0, .inr (7, [.null, .ref q1, .ref q2, .ref q3, .ref q4, .null, .null, .int 0, .null, .null])), (q1, .inl (cy 0, 16, .inl (fun _ => 0))), (q2, .inl (cy 1, 16, .inr (.inl (fun _ => 0)))), (q3, .inl (cy 1, 16, .inr (.inl (fun _ => 0)))), (q4, .inr (5, [.long 0, .long 1])), (q5, .inl (cy 0, 16, .inl (fun _ => 0)))]) H := hP
  have hD : va_D A (W0 ++ [(h0, .inr (7, [.null, .ref q1, .ref q2, .ref q3, .ref q4, .null, .null, .int 0, .null, .null])), (q1, .inl (cy 0, 16, .inl (fun _ => 0))), (q2, .inl (cy 1, 16, .inr (.inl (fun _ => 0)))), (q3, .inl (cy 1, 16, .inr (.inl (fun _ => 0)))), (q4, .inr (5, [.long 0, .long 1])), (q5, .inl (cy 0, 16, .inl (fun _ => 0)))]) := hD
  refine z_put (ci := 7) (k := 5) (i := 0) (v := .ref q5) hx hb hts hown hK hP hD hS (by decide) (by decide) rfl wk351 hin rfl rfl rfl (Nat.le_of_ble_eq_true rfl) dX7_init_44 (fun H locs hP hD hS => ?_)
  have hP : va_P D clss (W0 ++ [(h0, .inr (7, [.null, .ref q1, .ref q2, .ref q3, .ref q4, .ref q5, .null, .int 0, .null, .null])), (q1, .inl (cy 0, 16, .inl (fun _ => 0))), (q2, .inl (cy 1, 16, .inr (.inl (fun _ => 0)))), (q3, .inl (cy 1, 16, .inr (.inl (fun _ => 0)))), (q4, .inr (5, [.long 0, .long 1])), (q5, .inl (cy 0, 16, .inl (fun _ => 0)))]) H := hP
  have hD : va_D A (W0 ++ [(h0, .inr (7, [.null, .ref q1, .ref q2, .ref q3, .ref q4, .ref q5, .null, .int 0, .null, .null])), (q1, .inl (cy 0, 16, .inl (fun _ => 0))), (q2, .inl (cy 1, 16, .inr (.inl (fun _ => 0)))), (q3, .inl (cy 1, 16, .inr (.inl (fun _ => 0)))), (q4, .inr (5, [.long 0, .long 1])), (q5, .inl (cy 0, 16, .inl (fun _ => 0)))]) := hD
  refine lv_aload_n hx hb dX7_init_47 rfl (lv_at hl 0 rfl) ?_
  refine lv_bipush (v := 16) hx hb dX7_init_48 (by decide) ?_
  refine z_newa (atype := .int) (ty := .int) (t0 := 0) (a0 := (16, .inl (fun _ => 0))) hx hb hts wk86 rfl rfl (fun C h => by cases h) hK hP hD hS hA (fun _ => rfl) (by decide) rfl (by decide) (Nat.le_of_ble_eq_true rfl) (Nat.le_of_ble_eq_true rfl) dX7_init_50 (fun q6 H hP hD hS => ?_)
  have hP : va_P D clss (W0 ++ [(h0, .inr (7, [.null, .ref q1, .ref q2, .ref q3, .ref q4, .ref q5, .null, .int 0, .null, .null])), (q1, .inl (cy 0, 16, .inl (fun _ => 0))), (q2, .inl (cy 1, 16, .inr (.inl (fun _ => 0)))), (q3, .inl (cy 1, 16, .inr (.inl (fun _ => 0)))), (q4, .inr (5, [.long 0, .long 1])), (q5, .inl (cy 0, 16, .inl (fun _ => 0))), (q6, .inl (cy 0, 16, .inl (fun _ => 0)))]) H := hP
  have hD : va_D A (W0 ++ [(h0, .inr (7, [.null, .ref q1, .ref q2, .ref q3, .ref q4, .ref q5, .null, .int 0, .null, .null])), (q1, .inl (cy 0, 16, .inl (fun _ => 0))), (q2, .inl (cy 1, 16, .inr (.inl (fun _ => 0)))), (q3, .inl (cy 1, 16, .inr (.inl (fun _ => 0)))), (q4, .inr (5, [.long 0, .long 1])), (q5, .inl (cy 0, 16, .inl (fun _ => 0))), (q6, .inl (cy 0, 16, .inl (fun _ => 0)))]) := hD
  refine z_put (ci := 7) (k := 6) (i := 0) (v := .ref q6) hx hb hts hown hK hP hD hS (by decide) (by decide) rfl wk353 hin rfl rfl rfl (Nat.le_of_ble_eq_true rfl) dX7_init_52 (fun H locs hP hD hS => ?_)
  have hP : va_P D clss (W0 ++ [(h0, .inr (7, [.null, .ref q1, .ref q2, .ref q3, .ref q4, .ref q5, .ref q6, .int 0, .null, .null])), (q1, .inl (cy 0, 16, .inl (fun _ => 0))), (q2, .inl (cy 1, 16, .inr (.inl (fun _ => 0)))), (q3, .inl (cy 1, 16, .inr (.inl (fun _ => 0)))), (q4, .inr (5, [.long 0, .long 1])), (q5, .inl (cy 0, 16, .inl (fun _ => 0))), (q6, .inl (cy 0, 16, .inl (fun _ => 0)))]) H := hP
  have hD : va_D A (W0 ++ [(h0, .inr (7, [.null, .ref q1, .ref q2, .ref q3, .ref q4, .ref q5, .ref q6, .int 0, .null, .null])), (q1, .inl (cy 0, 16, .inl (fun _ => 0))), (q2, .inl (cy 1, 16, .inr (.inl (fun _ => 0)))), (q3, .inl (cy 1, 16, .inr (.inl (fun _ => 0)))), (q4, .inr (5, [.long 0, .long 1])), (q5, .inl (cy 0, 16, .inl (fun _ => 0))), (q6, .inl (cy 0, 16, .inl (fun _ => 0)))]) := hD
  refine lv_aload_n hx hb dX7_init_55 rfl (lv_at hl 0 rfl) ?_
  refine lv_bipush (v := 17) hx hb dX7_init_56 (by decide) ?_
  refine z_newa (atype := .int) (ty := .int) (t0 := 0) (a0 := (17, .inl (fun _ => 0))) hx hb hts wk86 rfl rfl (fun C h => by cases h) hK hP hD hS hA (fun _ => rfl) (by decide) rfl (by decide) (Nat.le_of_ble_eq_true rfl) (Nat.le_of_ble_eq_true rfl) dX7_init_58 (fun q7 H hP hD hS => ?_)
  have hP : va_P D clss (W0 ++ [(h0, .inr (7, [.null, .ref q1, .ref q2, .ref q3, .ref q4, .ref q5, .ref q6, .int 0, .null, .null])), (q1, .inl (cy 0, 16, .inl (fun _ => 0))), (q2, .inl (cy 1, 16, .inr (.inl (fun _ => 0)))), (q3, .inl (cy 1, 16, .inr (.inl (fun _ => 0)))), (q4, .inr (5, [.long 0, .long 1])), (q5, .inl (cy 0, 16, .inl (fun _ => 0))), (q6, .inl (cy 0, 16, .inl (fun _ => 0))), (q7, .inl (cy 0, 17, .inl (fun _ => 0)))]) H := hP
  have hD : va_D A (W0 ++ [(h0, .inr (7, [.null, .ref q1, .ref q2, .ref q3, .ref q4, .ref q5, .ref q6, .int 0, .null, .null])), (q1, .inl (cy 0, 16, .inl (fun _ => 0))), (q2, .inl (cy 1, 16, .inr (.inl (fun _ => 0)))), (q3, .inl (cy 1, 16, .inr (.inl (fun _ => 0)))), (q4, .inr (5, [.long 0, .long 1])), (q5, .inl (cy 0, 16, .inl (fun _ => 0))), (q6, .inl (cy 0, 16, .inl (fun _ => 0))), (q7, .inl (cy 0, 17, .inl (fun _ => 0)))]) := hD
  refine z_put (ci := 7) (k := 8) (i := 0) (v := .ref q7) hx hb hts hown hK hP hD hS (by decide) (by decide) rfl wk357 hin rfl rfl rfl (Nat.le_of_ble_eq_true rfl) dX7_init_60 (fun H locs hP hD hS => ?_)
  have hP : va_P D clss (W0 ++ [(h0, .inr (7, [.null, .ref q1, .ref q2, .ref q3, .ref q4, .ref q5, .ref q6, .int 0, .ref q7, .null])), (q1, .inl (cy 0, 16, .inl (fun _ => 0))), (q2, .inl (cy 1, 16, .inr (.inl (fun _ => 0)))), (q3, .inl (cy 1, 16, .inr (.inl (fun _ => 0)))), (q4, .inr (5, [.long 0, .long 1])), (q5, .inl (cy 0, 16, .inl (fun _ => 0))), (q6, .inl (cy 0, 16, .inl (fun _ => 0))), (q7, .inl (cy 0, 17, .inl (fun _ => 0)))]) H := hP
  have hD : va_D A (W0 ++ [(h0, .inr (7, [.null, .ref q1, .ref q2, .ref q3, .ref q4, .ref q5, .ref q6, .int 0, .ref q7, .null])), (q1, .inl (cy 0, 16, .inl (fun _ => 0))), (q2, .inl (cy 1, 16, .inr (.inl (fun _ => 0)))), (q3, .inl (cy 1, 16, .inr (.inl (fun _ => 0)))), (q4, .inr (5, [.long 0, .long 1])), (q5, .inl (cy 0, 16, .inl (fun _ => 0))), (q6, .inl (cy 0, 16, .inl (fun _ => 0))), (q7, .inl (cy 0, 17, .inl (fun _ => 0)))]) := hD
  refine lv_aload_n hx hb dX7_init_63 rfl (lv_at hl 0 rfl) ?_
  refine z_new (ci := 5) (fs := [.long 0, .long 0]) hx hb hts hown hK hP hD hS hA (by decide) wk323 wk324 wk10 (by decide +kernel) (Nat.le_of_ble_eq_true rfl) (Nat.le_of_ble_eq_true rfl) dX7_init_64 (fun q8 H hP hD hS => ?_)
  have hP : va_P D clss (W0 ++ [(h0, .inr (7, [.null, .ref q1, .ref q2, .ref q3, .ref q4, .ref q5, .ref q6, .int 0, .ref q7, .null])), (q1, .inl (cy 0, 16, .inl (fun _ => 0))), (q2, .inl (cy 1, 16, .inr (.inl (fun _ => 0)))), (q3, .inl (cy 1, 16, .inr (.inl (fun _ => 0)))), (q4, .inr (5, [.long 0, .long 1])), (q5, .inl (cy 0, 16, .inl (fun _ => 0))), (q6, .inl (cy 0, 16, .inl (fun _ => 0))), (q7, .inl (cy 0, 17, .inl (fun _ => 0))), (q8, .inr (5, [.long 0, .long 0]))]) H := hP
  have hD : va_D A (W0 ++ [(h0, .inr (7, [.null, .ref q1, .ref q2, .ref q3, .ref q4, .ref q5, .ref q6, .int 0, .ref q7, .null])), (q1, .inl (cy 0, 16, .inl (fun _ => 0))), (q2, .inl (cy 1, 16, .inr (.inl (fun _ => 0)))), (q3, .inl (cy 1, 16, .inr (.inl (fun _ => 0)))), (q4, .inr (5, [.long 0, .long 1])), (q5, .inl (cy 0, 16, .inl (fun _ => 0))), (q6, .inl (cy 0, 16, .inl (fun _ => 0))), (q7, .inl (cy 0, 17, .inl (fun _ => 0))), (q8, .inr (5, [.long 0, .long 0]))]) := hD
  refine lv_dup hx hb dX7_init_67 rfl ?_
  refine z_call (va_runIN (As := []) (rest := [.ref q8, .ref h0]) ⟨hx, hb, hml, hown, hts⟩ (kX5 l D cy A (W0 ++ [(h0, .inr (7, [.null, .ref q1, .ref q2, .ref q3, .ref q4, .ref q5, .ref q6, .int 0, .ref q7, .null])), (q1, .inl (cy 0, 16, .inl (fun _ => 0))), (q2, .inl (cy 1, 16, .inr (.inl (fun _ => 0)))), (q3, .inl (cy 1, 16, .inr (.inl (fun _ => 0)))), (q4, .inr (5, [.long 0, .long 1])), (q5, .inl (cy 0, 16, .inl (fun _ => 0))), (q6, .inl (cy 0, 16, .inl (fun _ => 0))), (q7, .inl (cy 0, 17, .inl (fun _ => 0)))]) q8 ) ⟨va_cnB 0 hts (good_gt wk327) rfl rfl rfl (hN.1 (.methodLinkNest RX7 24 yX5_init "LikeYears") (by decide +kernel)) (hts _ wk10) (by decide +kernel) ⟨Nat.le_of_ble_eq_true rfl, Nat.le_of_ble_eq_true rfl⟩, rfl, hts _ wk326⟩ ⟨Pk_blind, fun U hU hW => ⟨rfl, va_K.moved hW.alike hK, by rw [hU, List.append_assoc]; exact hP, by rw [List.append_assoc]; exact hD, fun q hq => hA q (Nat.le_trans hS.1 (by rw [← hU]; exact hq)), NW.warm hW hN⟩⟩ rfl rfl hl.1 rfl (lv_room (Nat.le_of_ble_eq_true rfl)) dX7_init_68 ⟨Nat.le_of_ble_eq_true rfl, Nat.le_of_ble_eq_true rfl⟩) hS (fun w H locs hΦ hP hD hS => ?_)
  subst hΦ
  rw [List.append_assoc] at hP hD
  have hP : va_P D clss (W0 ++ [(h0, .inr (7, [.null, .ref q1, .ref q2, .ref q3, .ref q4, .ref q5, .ref q6, .int 0, .ref q7, .null])), (q1, .inl (cy 0, 16, .inl (fun _ => 0))), (q2, .inl (cy 1, 16, .inr (.inl (fun _ => 0)))), (q3, .inl (cy 1, 16, .inr (.inl (fun _ => 0)))), (q4, .inr (5, [.long 0, .long 1])), (q5, .inl (cy 0, 16, .inl (fun _ => 0))), (q6, .inl (cy 0, 16, .inl (fun _ => 0))), (q7, .inl (cy 0, 17, .inl (fun _ => 0))), (q8, .inr (5, [.long 0, .long 1]))]) H := hP
  have hD : va_D A (W0 ++ [(h0, .inr (7, [.null, .ref q1, .ref q2, .ref q3, .ref q4, .ref q5, .ref q6, .int 0, .ref q7, .null])), (q1, .inl (cy 0, 16, .inl (fun _ => 0))), (q2, .inl (cy 1, 16, .inr (.inl (fun _ => 0)))), (q3, .inl (cy 1, 16, .inr (.inl (fun _ => 0)))), (q4, .inr (5, [.long 0, .long 1])), (q5, .inl (cy 0, 16, .inl (fun _ => 0))), (q6, .inl (cy 0, 16, .inl (fun _ => 0))), (q7, .inl (cy 0, 17, .inl (fun _ => 0))), (q8, .inr (5, [.long 0, .long 1]))]) := hD
  refine z_put (ci := 7) (k := 9) (i := 0) (v := .ref q8) hx hb hts hown hK hP hD hS (by decide) (by decide) rfl wk358 hin rfl rfl rfl (Nat.le_of_ble_eq_true rfl) dX7_init_71 (fun H locs hP hD hS => ?_)
  have hP : va_P D clss (W0 ++ [(h0, .inr (7, [.null, .ref q1, .ref q2, .ref q3, .ref q4, .ref q5, .ref q6, .int 0, .ref q7, .ref q8])), (q1, .inl (cy 0, 16, .inl (fun _ => 0))), (q2, .inl (cy 1, 16, .inr (.inl (fun _ => 0)))), (q3, .inl (cy 1, 16, .inr (.inl (fun _ => 0)))), (q4, .inr (5, [.long 0, .long 1])), (q5, .inl (cy 0, 16, .inl (fun _ => 0))), (q6, .inl (cy 0, 16, .inl (fun _ => 0))), (q7, .inl (cy 0, 17, .inl (fun _ => 0))), (q8, .inr (5, [.long 0, .long 1]))]) H := hP
  have hD : va_D A (W0 ++ [(h0, .inr (7, [.null, .ref q1, .ref q2, .ref q3, .ref q4, .ref q5, .ref q6, .int 0, .ref q7, .ref q8])), (q1, .inl (cy 0, 16, .inl (fun _ => 0))), (q2, .inl (cy 1, 16, .inr (.inl (fun _ => 0)))), (q3, .inl (cy 1, 16, .inr (.inl (fun _ => 0)))), (q4, .inr (5, [.long 0, .long 1])), (q5, .inl (cy 0, 16, .inl (fun _ => 0))), (q6, .inl (cy 0, 16, .inl (fun _ => 0))), (q7, .inl (cy 0, 17, .inl (fun _ => 0))), (q8, .inr (5, [.long 0, .long 1]))]) := hD
  refine lv_aload_n hx hb dX7_init_74 rfl (lv_at hl 0 rfl) ?_
  refine lv_aload_n hx hb dX7_init_75 rfl (lv_at hl 1 rfl) ?_
  refine z_put (ci := 7) (k := 0) (i := 0) (v := .ref a1) hx hb hts hown hK hP hD hS (by decide) (by decide) rfl wk342 hin rfl rfl rfl (Nat.le_of_ble_eq_true rfl) dX7_init_76 (fun H locs hP hD hS => ?_)
  have hP : va_P D clss (W0 ++ [(h0, .inr (7, [.ref a1, .ref q1, .ref q2, .ref q3, .ref q4, .ref q5, .ref q6, .int 0, .ref q7, .ref q8])), (q1, .inl (cy 0, 16, .inl (fun _ => 0))), (q2, .inl (cy 1, 16, .inr (.inl (fun _ => 0)))), (q3, .inl (cy 1, 16, .inr (.inl (fun _ => 0)))), (q4, .inr (5, [.long 0, .long 1])), (q5, .inl (cy 0, 16, .inl (fun _ => 0))), (q6, .inl (cy 0, 16, .inl (fun _ => 0))), (q7, .inl (cy 0, 17, .inl (fun _ => 0))), (q8, .inr (5, [.long 0, .long 1]))]) H := hP
  have hD : va_D A (W0 ++ [(h0, .inr (7, [.ref a1, .ref q1, .ref q2, .ref q3, .ref q4, .ref q5, .ref q6, .int 0, .ref q7, .ref q8])), (q1, .inl (cy 0, 16, .inl (fun _ => 0))), (q2, .inl (cy 1, 16, .inr (.inl (fun _ => 0)))), (q3, .inl (cy 1, 16, .inr (.inl (fun _ => 0)))), (q4, .inr (5, [.long 0, .long 1])), (q5, .inl (cy 0, 16, .inl (fun _ => 0))), (q6, .inl (cy 0, 16, .inl (fun _ => 0))), (q7, .inl (cy 0, 17, .inl (fun _ => 0))), (q8, .inr (5, [.long 0, .long 1]))]) := hD
  exact W.vret hx hb hr (fun t ht hW => ⟨rfl, _, ⟨q1, q2, q3, q4, q5, q6, q7, q8, rfl⟩, by rw [ht]; exact hP, hD, hS.F ht⟩) hS.2.2 dX7_init_79 hlocks

set_option maxRecDepth 100000 in
set_option maxHeartbeats 8000000 in
theorem kX3 (l : Launch) (D : va_G) (cy : Nat → ClassId) (A : Nat → Prop) (W0 : va_W) (h0 : Nat) : Met l yX3_init (.code yX3_init cX3_init 1 none :: gt) (rmc 1 3 49) (Pk D cy A [.ref h0] (W0 ++ [(h0, .inr (3, [.int 0, .int 0, .int 0, .null, .null, .null, .int 0]))])) (Qk D A (fun w => ∃ q1 q2 q3 : Nat, w = W0 ++ [(h0, .inr (3, [.int 0, .int 0, .int 0, .ref q1, .ref q2, .ref q3, .int 0])), (q1, .inl (cy 0, 16, .inl (fun _ => 0))), (q2, .inl (cy 0, 16, .inl (fun _ => 0))), (q3, .inl (cy 0, 17, .inl (fun _ => 0)))])) 3 49 A := by
  refine Met.ofW (cc := cX3_init) (maxL := 1) (ret := none) (by decide +kernel) rfl ?_
  intro p e s m args below meth c s₁ B hml hv
  obtain ⟨rfl, hK, hP, hD, hA, hN⟩ := hv
  have hx := B.exec
  have hb := B.bytes
  have hr := B.returns
  have hts0 := atoms_spec (ws := .code yX3_init cX3_init 1 none :: gt) B.pre
  have hts : ∀ w ∈ gt, w.before ([.ref h0] : List Value).toArray s = true := fun w hw => hts0 w (List.mem_cons_of_mem _ hw)
  have hown : s.vm.findClass RX3 = some m.cls := findClass_of_methodNamed B.named
  have hlocks := B.notSynchronized
  have hin : meth.name = "<init>" := (name_of_methodNamed B.named B.method).1
  have hS : va_S A s.heap s.heap [] := va_S.rf
  have hl := lv_entry ([.ref h0]) (n := 1) (Nat.le_of_ble_eq_true rfl)
  rw [lg_entry_eq]
  generalize (lg_sl ([.ref h0]) ++ List.replicate (1 - (lg_sl ([.ref h0])).length) Slot.unset).toArray = ls at hl ⊢
  have hl : lv_has ls 1 [(0, .ref h0)] := hl
  refine lv_aload_n hx hb dX3_init_0 rfl (lv_at hl 0 rfl) ?_
  refine W.objInit hx hb hown (hts _ wk385) (hts _ wk30) (hts _ wk31) rfl (by rw [hml]; exact hl.1) rfl dX3_init_1 (Nat.le_of_ble_eq_true rfl) (Nat.le_of_ble_eq_true rfl) ?_
  refine lv_aload_n hx hb dX3_init_4 rfl (lv_at hl 0 rfl) ?_
  refine lv_bipush (v := 16) hx hb dX3_init_5 (by decide) ?_
  refine z_newa (atype := .int) (ty := .int) (t0 := 0) (a0 := (16, .inl (fun _ => 0))) hx hb hts wk86 rfl rfl (fun C h => by cases h) hK hP hD hS hA (fun _ => rfl) (by decide) rfl (by decide) (Nat.le_of_ble_eq_true rfl) (Nat.le_of_ble_eq_true rfl) dX3_init_7 (fun q1 H hP hD hS => ?_)
  have hP : va_P D clss (W0 ++ [(h0, .inr (3, [.int 0, .int 0, .int 0, .null, .null, .null, .int 0])), (q1, .inl (cy 0, 16, .inl (fun _ => 0)))]) H := hP
  have hD : va_D A (W0 ++ [(h0, .inr (3, [.int 0, .int 0, .int 0, .null, .null, .null, .int 0])), (q1, .inl (cy 0, 16, .inl (fun _ => 0)))]) := hD
  refine z_put (ci := 3) (k := 3) (i := 0) (v := .ref q1) hx hb hts hown hK hP hD hS (by decide) (by decide) rfl wk392 hin rfl rfl rfl (Nat.le_of_ble_eq_true rfl) dX3_init_9 (fun H locs hP hD hS => ?_)
  have hP : va_P D clss (W0 ++ [(h0, .inr (3, [.int 0, .int 0, .int 0, .ref q1, .null, .null, .int 0])), (q1, .inl (cy 0, 16, .inl (fun _ => 0)))]) H := hP
  have hD : va_D A (W0 ++ [(h0, .inr (3, [.int 0, .int 0, .int 0, .ref q1, .null, .null, .int 0])), (q1, .inl (cy 0, 16, .inl (fun _ => 0)))]) := hD
  refine lv_aload_n hx hb dX3_init_12 rfl (lv_at hl 0 rfl) ?_
  refine lv_bipush (v := 16) hx hb dX3_init_13 (by decide) ?_
  refine z_newa (atype := .int) (ty := .int) (t0 := 0) (a0 := (16, .inl (fun _ => 0))) hx hb hts wk86 rfl rfl (fun C h => by cases h) hK hP hD hS hA (fun _ => rfl) (by decide) rfl (by decide) (Nat.le_of_ble_eq_true rfl) (Nat.le_of_ble_eq_true rfl) dX3_init_15 (fun q2 H hP hD hS => ?_)
  have hP : va_P D clss (W0 ++ [(h0, .inr (3, [.int 0, .int 0, .int 0, .ref q1, .null, .null, .int 0])), (q1, .inl (cy 0, 16, .inl (fun _ => 0))), (q2, .inl (cy 0, 16, .inl (fun _ => 0)))]) H := hP
  have hD : va_D A (W0 ++ [(h0, .inr (3, [.int 0, .int 0, .int 0, .ref q1, .null, .null, .int 0])), (q1, .inl (cy 0, 16, .inl (fun _ => 0))), (q2, .inl (cy 0, 16, .inl (fun _ => 0)))]) := hD
  refine z_put (ci := 3) (k := 4) (i := 0) (v := .ref q2) hx hb hts hown hK hP hD hS (by decide) (by decide) rfl wk393 hin rfl rfl rfl (Nat.le_of_ble_eq_true rfl) dX3_init_17 (fun H locs hP hD hS => ?_)
  have hP : va_P D clss (W0 ++ [(h0, .inr (3, [.int 0, .int 0, .int 0, .ref q1, .ref q2, .null, .int 0])), (q1, .inl (cy 0, 16, .inl (fun _ => 0))), (q2, .inl (cy 0, 16, .inl (fun _ => 0)))]) H := hP
  have hD : va_D A (W0 ++ [(h0, .inr (3, [.int 0, .int 0, .int 0, .ref q1, .ref q2, .null, .int 0])), (q1, .inl (cy 0, 16, .inl (fun _ => 0))), (q2, .inl (cy 0, 16, .inl (fun _ => 0)))]) := hD
  refine lv_aload_n hx hb dX3_init_20 rfl (lv_at hl 0 rfl) ?_
  refine lv_bipush (v := 17) hx hb dX3_init_21 (by decide) ?_
  refine z_newa (atype := .int) (ty := .int) (t0 := 0) (a0 := (17, .inl (fun _ => 0))) hx hb hts wk86 rfl rfl (fun C h => by cases h) hK hP hD hS hA (fun _ => rfl) (by decide) rfl (by decide) (Nat.le_of_ble_eq_true rfl) (Nat.le_of_ble_eq_true rfl) dX3_init_23 (fun q3 H hP hD hS => ?_)
  have hP : va_P D clss (W0 ++ [(h0, .inr (3, [.int 0, .int 0, .int 0, .ref q1, .ref q2, .null, .int 0])), (q1, .inl (cy 0, 16, .inl (fun _ => 0))), (q2, .inl (cy 0, 16, .inl (fun _ => 0))), (q3, .inl (cy 0, 17, .inl (fun _ => 0)))]) H := hP
  have hD : va_D A (W0 ++ [(h0, .inr (3, [.int 0, .int 0, .int 0, .ref q1, .ref q2, .null, .int 0])), (q1, .inl (cy 0, 16, .inl (fun _ => 0))), (q2, .inl (cy 0, 16, .inl (fun _ => 0))), (q3, .inl (cy 0, 17, .inl (fun _ => 0)))]) := hD
  refine z_put (ci := 3) (k := 5) (i := 0) (v := .ref q3) hx hb hts hown hK hP hD hS (by decide) (by decide) rfl wk394 hin rfl rfl rfl (Nat.le_of_ble_eq_true rfl) dX3_init_25 (fun H locs hP hD hS => ?_)
  have hP : va_P D clss (W0 ++ [(h0, .inr (3, [.int 0, .int 0, .int 0, .ref q1, .ref q2, .ref q3, .int 0])), (q1, .inl (cy 0, 16, .inl (fun _ => 0))), (q2, .inl (cy 0, 16, .inl (fun _ => 0))), (q3, .inl (cy 0, 17, .inl (fun _ => 0)))]) H := hP
  have hD : va_D A (W0 ++ [(h0, .inr (3, [.int 0, .int 0, .int 0, .ref q1, .ref q2, .ref q3, .int 0])), (q1, .inl (cy 0, 16, .inl (fun _ => 0))), (q2, .inl (cy 0, 16, .inl (fun _ => 0))), (q3, .inl (cy 0, 17, .inl (fun _ => 0)))]) := hD
  exact W.vret hx hb hr (fun t ht hW => ⟨rfl, _, ⟨q1, q2, q3, rfl⟩, by rw [ht]; exact hP, hD, hS.F ht⟩) hS.2.2 dX3_init_28 hlocks

set_option maxRecDepth 100000 in
set_option maxHeartbeats 8000000 in
theorem kX9 (l : Launch) (D : va_G) (cy : Nat → ClassId) (A : Nat → Prop) (W0 : va_W) (h0 : Nat) : Met l yX9_init (.code yX9_init cX9_init 1 none :: gt) (rmc 2 8 550) (Pk D cy A [.ref h0] (W0 ++ [(h0, .inr (9, [.null, .int 0, .int 0, .null, .null, .null, .null, .null, .null, .null]))])) (Qk D A (fun w => ∃ q1 q2 q3 q4 q5 q6 q7 q8 : Nat, w = W0 ++ [(h0, .inr (9, [.ref q1, .int 0, .int 0, .ref q2, .ref q3, .ref q4, .ref q5, .ref q6, .ref q7, .ref q8])), (q1, .inr (5, [.long 0, .long 1])), (q2, .inl (cy 0, 13, .inl (fun _ => 0))), (q3, .inl (cy 0, 13, .inl (fun _ => 0))), (q4, .inl (cy 0, 13, .inl (fun _ => 0))), (q5, .inl (cy 1, 169, .inr (.inl (fun _ => 0)))), (q6, .inl (cy 1, 169, .inr (.inl (fun _ => 0)))), (q7, .inl (cy 0, 169, .inl (fun _ => 0))), (q8, .inr (5, [.long 0, .long 1]))])) 8 550 A := by
  refine Met.ofW (cc := cX9_init) (maxL := 1) (ret := none) (by decide +kernel) rfl ?_
  intro p e s m args below meth c s₁ B hml hv
  obtain ⟨rfl, hK, hP, hD, hA, hN⟩ := hv
  have hx := B.exec
  have hb := B.bytes
  have hr := B.returns
  have hts0 := atoms_spec (ws := .code yX9_init cX9_init 1 none :: gt) B.pre
  have hts : ∀ w ∈ gt, w.before ([.ref h0] : List Value).toArray s = true := fun w hw => hts0 w (List.mem_cons_of_mem _ hw)
  have hown : s.vm.findClass RX9 = some m.cls := findClass_of_methodNamed B.named
  have hlocks := B.notSynchronized
  have hin : meth.name = "<init>" := (name_of_methodNamed B.named B.method).1
  have hS : va_S A s.heap s.heap [] := va_S.rf
  have hl := lv_entry ([.ref h0]) (n := 1) (Nat.le_of_ble_eq_true rfl)
  rw [lg_entry_eq]
  generalize (lg_sl ([.ref h0]) ++ List.replicate (1 - (lg_sl ([.ref h0])).length) Slot.unset).toArray = ls at hl ⊢
  have hl : lv_has ls 1 [(0, .ref h0)] := hl
  refine lv_aload_n hx hb dX9_init_0 rfl (lv_at hl 0 rfl) ?_
  refine W.objInit hx hb hown (hts _ wk416) (hts _ wk30) (hts _ wk31) rfl (by rw [hml]; exact hl.1) rfl dX9_init_1 (Nat.le_of_ble_eq_true rfl) (Nat.le_of_ble_eq_true rfl) ?_
  refine lv_aload_n hx hb dX9_init_4 rfl (lv_at hl 0 rfl) ?_
  refine z_new (ci := 5) (fs := [.long 0, .long 0]) hx hb hts hown hK hP hD hS hA (by decide) wk417 wk324 wk10 (by decide +kernel) (Nat.le_of_ble_eq_true rfl) (Nat.le_of_ble_eq_true rfl) dX9_init_5 (fun q1 H hP hD hS => ?_)
  have hP : va_P D clss (W0 ++ [(h0, .inr (9, [.null, .int 0, .int 0, .null, .null, .null, .null, .null, .null, .null])), (q1, .inr (5, [.long 0, .long 0]))]) H := hP
  have hD : va_D A (W0 ++ [(h0, .inr (9, [.null, .int 0, .int 0, .null, .null, .null, .null, .null, .null, .null])), (q1, .inr (5, [.long 0, .long 0]))]) := hD
  refine lv_dup hx hb dX9_init_8 rfl ?_
  refine z_call (va_runIN (As := []) (rest := [.ref q1, .ref h0]) ⟨hx, hb, hml, hown, hts⟩ (kX5 l D cy A (W0 ++ [(h0, .inr (9, [.null, .int 0, .int 0, .null, .null, .null, .null, .null, .null, .null]))]) q1 ) ⟨va_cnB 0 hts (good_gt wk327) rfl rfl rfl (hN.1 (.methodLinkNest RX9 11 yX5_init "LikeYears") (by decide +kernel)) (hts _ wk10) (by decide +kernel) ⟨Nat.le_of_ble_eq_true rfl, Nat.le_of_ble_eq_true rfl⟩, rfl, hts _ wk326⟩ ⟨Pk_blind, fun U hU hW => ⟨rfl, va_K.moved hW.alike hK, by rw [hU, List.append_assoc]; exact hP, by rw [List.append_assoc]; exact hD, fun q hq => hA q (Nat.le_trans hS.1 (by rw [← hU]; exact hq)), NW.warm hW hN⟩⟩ rfl rfl hl.1 rfl (lv_room (Nat.le_of_ble_eq_true rfl)) dX9_init_9 ⟨Nat.le_of_ble_eq_true rfl, Nat.le_of_ble_eq_true rfl⟩) hS (fun w H locs hΦ hP hD hS => ?_)
  subst hΦ
  rw [List.append_assoc] at hP hD
  have hP : va_P D clss (W0 ++ [(h0, .inr (9, [.null, .int 0, .int 0, .null, .null, .null, .null, .null, .null, .null])), (q1, .inr (5, [.long 0, .long 1]))]) H := hP
  have hD : va_D A (W0 ++ [(h0, .inr (9, [.null, .int 0, .int 0, .null, .null, .null, .null, .null, .null, .null])), (q1, .inr (5, [.long 0, .long 1]))]) := hD
  refine z_put (ci := 9) (k := 0) (i := 0) (v := .ref q1) hx hb hts hown hK hP hD hS (by decide) (by decide) rfl wk419 hin rfl rfl rfl (Nat.le_of_ble_eq_true rfl) dX9_init_12 (fun H locs hP hD hS => ?_)
  have hP : va_P D clss (W0 ++ [(h0, .inr (9, [.ref q1, .int 0, .int 0, .null, .null, .null, .null, .null, .null, .null])), (q1, .inr (5, [.long 0, .long 1]))]) H := hP
  have hD : va_D A (W0 ++ [(h0, .inr (9, [.ref q1, .int 0, .int 0, .null, .null, .null, .null, .null, .null, .null])), (q1, .inr (5, [.long 0, .long 1]))]) := hD
  refine lv_aload_n hx hb dX9_init_15 rfl (lv_at hl 0 rfl) ?_
  refine lv_bipush (v := 13) hx hb dX9_init_16 (by decide) ?_
  refine z_newa (atype := .int) (ty := .int) (t0 := 0) (a0 := (13, .inl (fun _ => 0))) hx hb hts wk86 rfl rfl (fun C h => by cases h) hK hP hD hS hA (fun _ => rfl) (by decide) rfl (by decide) (Nat.le_of_ble_eq_true rfl) (Nat.le_of_ble_eq_true rfl) dX9_init_18 (fun q2 H hP hD hS => ?_)
  have hP : va_P D clss (W0 ++ [(h0, .inr (9, [.ref q1, .int 0, .int 0, .null, .null, .null, .null, .null, .null, .null])), (q1, .inr (5, [.long 0, .long 1])), (q2, .inl (cy 0, 13, .inl (fun _ => 0)))]) H := hP
  have hD : va_D A (W0 ++ [(h0, .inr (9, [.ref q1, .int 0, .int 0, .null, .null, .null, .null, .null, .null, .null])), (q1, .inr (5, [.long 0, .long 1])), (q2, .inl (cy 0, 13, .inl (fun _ => 0)))]) := hD
  refine z_put (ci := 9) (k := 3) (i := 0) (v := .ref q2) hx hb hts hown hK hP hD hS (by decide) (by decide) rfl wk424 hin rfl rfl rfl (Nat.le_of_ble_eq_true rfl) dX9_init_20 (fun H locs hP hD hS => ?_)
  have hP : va_P D clss (W0 ++ [(h0, .inr (9, [.ref q1, .int 0, .int 0, .ref q2, .null, .null, .null, .null, .null, .null])), (q1, .inr (5, [.long 0, .long 1])), (q2, .inl (cy 0, 13, .inl (fun _ => 0)))]) H := hP
  have hD : va_D A (W0 ++ [(h0, .inr (9, [.ref q1, .int 0, .int 0, .ref q2, .null, .null, .null, .null, .null, .null])), (q1, .inr (5, [.long 0, .long 1])), (q2, .inl (cy 0, 13, .inl (fun _ => 0)))]) := hD
  refine lv_aload_n hx hb dX9_init_23 rfl (lv_at hl 0 rfl) ?_
  refine lv_bipush (v := 13) hx hb dX9_init_24 (by decide) ?_
  refine z_newa (atype := .int) (ty := .int) (t0 := 0) (a0 := (13, .inl (fun _ => 0))) hx hb hts wk86 rfl rfl (fun C h => by cases h) hK hP hD hS hA (fun _ => rfl) (by decide) rfl (by decide) (Nat.le_of_ble_eq_true rfl) (Nat.le_of_ble_eq_true rfl) dX9_init_26 (fun q3 H hP hD hS => ?_)
  have hP : va_P D clss (W0 ++ [(h0, .inr (9, [.ref q1, .int 0, .int 0, .ref q2, .null, .null, .null, .null, .null, .null])), (q1, .inr (5, [.long 0, .long 1])), (q2, .inl (cy 0, 13, .inl (fun _ => 0))), (q3, .inl (cy 0, 13, .inl (fun _ => 0)))]) H := hP
  have hD : va_D A (W0 ++ [(h0, .inr (9, [.ref q1, .int 0, .int 0, .ref q2, .null, .null, .null, .null, .null, .null])), (q1, .inr (5, [.long 0, .long 1])), (q2, .inl (cy 0, 13, .inl (fun _ => 0))), (q3, .inl (cy 0, 13, .inl (fun _ => 0)))]) := hD
  refine z_put (ci := 9) (k := 4) (i := 0) (v := .ref q3) hx hb hts hown hK hP hD hS (by decide) (by decide) rfl wk425 hin rfl rfl rfl (Nat.le_of_ble_eq_true rfl) dX9_init_28 (fun H locs hP hD hS => ?_)
  have hP : va_P D clss (W0 ++ [(h0, .inr (9, [.ref q1, .int 0, .int 0, .ref q2, .ref q3, .null, .null, .null, .null, .null])), (q1, .inr (5, [.long 0, .long 1])), (q2, .inl (cy 0, 13, .inl (fun _ => 0))), (q3, .inl (cy 0, 13, .inl (fun _ => 0)))]) H := hP
  have hD : va_D A (W0 ++ [(h0, .inr (9, [.ref q1, .int 0, .int 0, .ref q2, .ref q3, .null, .null, .null, .null, .null])), (q1, .inr (5, [.long 0, .long 1])), (q2, .inl (cy 0, 13, .inl (fun _ => 0))), (q3, .inl (cy 0, 13, .inl (fun _ => 0)))]) := hD
  refine lv_aload_n hx hb dX9_init_31 rfl (lv_at hl 0 rfl) ?_
  refine lv_bipush (v := 13) hx hb dX9_init_32 (by decide) ?_
  refine z_newa (atype := .int) (ty := .int) (t0 := 0) (a0 := (13, .inl (fun _ => 0))) hx hb hts wk86 rfl rfl (fun C h => by cases h) hK hP hD hS hA (fun _ => rfl) (by decide) rfl (by decide) (Nat.le_of_ble_eq_true rfl) (Nat.le_of_ble_eq_true rfl) dX9_init_34 (fun q4 H hP hD hS => ?_)
  have hP : va_P D clss (W0 ++ [(h0, .inr (9, [.ref q1, .int 0, .int 0, .ref q2, .ref q3, .null, .null, .null, .null, .null])), (q1, .inr (5, [.long 0, .long 1])), (q2, .inl (cy 0, 13, .inl (fun _ => 0))), (q3, .inl (cy 0, 13, .inl (fun _ => 0))), (q4, .inl (cy 0, 13, .inl (fun _ => 0)))]) H := hP
  have hD : va_D A (W0 ++ [(h0, .inr (9, [.ref q1, .int 0, .int 0, .ref q2, .ref q3, .null, .null, .null, .null, .null])), (q1, .inr (5, [.long 0, .long 1])), (q2, .inl (cy 0, 13, .inl (fun _ => 0))), (q3, .inl (cy 0, 13, .inl (fun _ => 0))), (q4, .inl (cy 0, 13, .inl (fun _ => 0)))]) := hD
  refine z_put (ci := 9) (k := 5) (i := 0) (v := .ref q4) hx hb hts hown hK hP hD hS (by decide) (by decide) rfl wk426 hin rfl rfl rfl (Nat.le_of_ble_eq_true rfl) dX9_init_36 (fun H locs hP hD hS => ?_)
  have hP : va_P D clss (W0 ++ [(h0, .inr (9, [.ref q1, .int 0, .int 0, .ref q2, .ref q3, .ref q4, .null, .null, .null, .null])), (q1, .inr (5, [.long 0, .long 1])), (q2, .inl (cy 0, 13, .inl (fun _ => 0))), (q3, .inl (cy 0, 13, .inl (fun _ => 0))), (q4, .inl (cy 0, 13, .inl (fun _ => 0)))]) H := hP
  have hD : va_D A (W0 ++ [(h0, .inr (9, [.ref q1, .int 0, .int 0, .ref q2, .ref q3, .ref q4, .null, .null, .null, .null])), (q1, .inr (5, [.long 0, .long 1])), (q2, .inl (cy 0, 13, .inl (fun _ => 0))), (q3, .inl (cy 0, 13, .inl (fun _ => 0))), (q4, .inl (cy 0, 13, .inl (fun _ => 0)))]) := hD
  refine lv_aload_n hx hb dX9_init_39 rfl (lv_at hl 0 rfl) ?_
  refine lv_sipush (v := 169) hx hb dX9_init_40 (by decide) ?_
  refine z_newa (atype := .long) (ty := .long) (t0 := 1) (a0 := (169, .inr (.inl (fun _ => 0)))) hx hb hts wk87 rfl rfl (fun C h => by cases h) hK hP hD hS hA (fun _ => rfl) (by decide) rfl (by decide) (Nat.le_of_ble_eq_true rfl) (Nat.le_of_ble_eq_true rfl) dX9_init_43 (fun q5 H hP hD hS => ?_)
  have hP : va_P D clss (W0 ++ [(h0, .inr (9, [.ref q1, .int 0, .int 0, .ref q2, .ref q3, .ref q4, .null, .null, .null, .null])), (q1, .inr (5, [.long 0, .long 1])), (q2, .inl (cy 0, 13, .inl (fun _ => 0))), (q3, .inl (cy 0, 13, .inl (fun _ => 0))), (q4, .inl (cy 0, 13, .inl (fun _ => 0))), (q5, .inl (cy 1, 169, .inr (.inl (fun _ => 0))))]) H := hP
  have hD : va_D A (W0 ++ [(h0, .inr (9, [.ref q1, .int 0, .int 0, .ref q2, .ref q3, .ref q4, .null, .null, .null, .null])), (q1, .inr (5, [.long 0, .long 1])), (q2, .inl (cy 0, 13, .inl (fun _ => 0))), (q3, .inl (cy 0, 13, .inl (fun _ => 0))), (q4, .inl (cy 0, 13, .inl (fun _ => 0))), (q5, .inl (cy 1, 169, .inr (.inl (fun _ => 0))))]) := hD
  refine z_put (ci := 9) (k := 6) (i := 0) (v := .ref q5) hx hb hts hown hK hP hD hS (by decide) (by decide) rfl wk427 hin rfl rfl rfl (Nat.le_of_ble_eq_true rfl) dX9_init_45 (fun H locs hP hD hS => ?_)
  have hP : va_P D clss (W0 ++ [(h0, .inr (9, [.ref q1, .int 0, .int 0, .ref q2, .ref q3, .ref q4, .ref q5, .null, .null, .null])), (q1, .inr (5, [.long 0, .long 1])), (q2, .inl (cy 0, 13, .inl (fun _ => 0))), (q3, .inl (cy 0, 13, .inl (fun _ => 0))), (q4, .inl (cy 0, 13, .inl (fun _ => 0))), (q5, .inl (cy 1, 169, .inr (.inl (fun _ => 0))))]) H := hP
  have hD : va_D A (W0 ++ [(h0, .inr (9, [.ref q1, .int 0, .int 0, .ref q2, .ref q3, .ref q4, .ref q5, .null, .null, .null])), (q1, .inr (5, [.long 0, .long 1])), (q2, .inl (cy 0, 13, .inl (fun _ => 0))), (q3, .inl (cy 0, 13, .inl (fun _ => 0))), (q4, .inl (cy 0, 13, .inl (fun _ => 0))), (q5, .inl (cy 1, 169, .inr (.inl (fun _ => 0))))]) := hD
  refine lv_aload_n hx hb dX9_init_48 rfl (lv_at hl 0 rfl) ?_
  refine lv_sipush (v := 169) hx hb dX9_init_49 (by decide) ?_
  refine z_newa (atype := .long) (ty := .long) (t0 := 1) (a0 := (169, .inr (.inl (fun _ => 0)))) hx hb hts wk87 rfl rfl (fun C h => by cases h) hK hP hD hS hA (fun _ => rfl) (by decide) rfl (by decide) (Nat.le_of_ble_eq_true rfl) (Nat.le_of_ble_eq_true rfl) dX9_init_52 (fun q6 H hP hD hS => ?_)
  have hP : va_P D clss (W0 ++ [(h0, .inr (9, [.ref q1, .int 0, .int 0, .ref q2, .ref q3, .ref q4, .ref q5, .null, .null, .null])), (q1, .inr (5, [.long 0, .long 1])), (q2, .inl (cy 0, 13, .inl (fun _ => 0))), (q3, .inl (cy 0, 13, .inl (fun _ => 0))), (q4, .inl (cy 0, 13, .inl (fun _ => 0))), (q5, .inl (cy 1, 169, .inr (.inl (fun _ => 0)))), (q6, .inl (cy 1, 169, .inr (.inl (fun _ => 0))))]) H := hP
  have hD : va_D A (W0 ++ [(h0, .inr (9, [.ref q1, .int 0, .int 0, .ref q2, .ref q3, .ref q4, .ref q5, .null, .null, .null])), (q1, .inr (5, [.long 0, .long 1])), (q2, .inl (cy 0, 13, .inl (fun _ => 0))), (q3, .inl (cy 0, 13, .inl (fun _ => 0))), (q4, .inl (cy 0, 13, .inl (fun _ => 0))), (q5, .inl (cy 1, 169, .inr (.inl (fun _ => 0)))), (q6, .inl (cy 1, 169, .inr (.inl (fun _ => 0))))]) := hD
  refine z_put (ci := 9) (k := 7) (i := 0) (v := .ref q6) hx hb hts hown hK hP hD hS (by decide) (by decide) rfl wk428 hin rfl rfl rfl (Nat.le_of_ble_eq_true rfl) dX9_init_54 (fun H locs hP hD hS => ?_)
  have hP : va_P D clss (W0 ++ [(h0, .inr (9, [.ref q1, .int 0, .int 0, .ref q2, .ref q3, .ref q4, .ref q5, .ref q6, .null, .null])), (q1, .inr (5, [.long 0, .long 1])), (q2, .inl (cy 0, 13, .inl (fun _ => 0))), (q3, .inl (cy 0, 13, .inl (fun _ => 0))), (q4, .inl (cy 0, 13, .inl (fun _ => 0))), (q5, .inl (cy 1, 169, .inr (.inl (fun _ => 0)))), (q6, .inl (cy 1, 169, .inr (.inl (fun _ => 0))))]) H := hP
  have hD : va_D A (W0 ++ [(h0, .inr (9, [.ref q1, .int 0, .int 0, .ref q2, .ref q3, .ref q4, .ref q5, .ref q6, .null, .null])), (q1, .inr (5, [.long 0, .long 1])), (q2, .inl (cy 0, 13, .inl (fun _ => 0))), (q3, .inl (cy 0, 13, .inl (fun _ => 0))), (q4, .inl (cy 0, 13, .inl (fun _ => 0))), (q5, .inl (cy 1, 169, .inr (.inl (fun _ => 0)))), (q6, .inl (cy 1, 169, .inr (.inl (fun _ => 0))))]) := hD
  refine lv_aload_n hx hb dX9_init_57 rfl (lv_at hl 0 rfl) ?_
  refine lv_sipush (v := 169) hx hb dX9_init_58 (by decide) ?_
  refine z_newa (atype := .int) (ty := .int) (t0 := 0) (a0 := (169, .inl (fun _ => 0))) hx hb hts wk86 rfl rfl (fun C h => by cases h) hK hP hD hS hA (fun _ => rfl) (by decide) rfl (by decide) (Nat.le_of_ble_eq_true rfl) (Nat.le_of_ble_eq_true rfl) dX9_init_61 (fun q7 H hP hD hS => ?_)
  have hP : va_P D clss (W0 ++ [(h0, .inr (9, [.ref q1, .int 0, .int 0, .ref q2, .ref q3, .ref q4, .ref q5, .ref q6, .null, .null])), (q1, .inr (5, [.long 0, .long 1])), (q2, .inl (cy 0, 13, .inl (fun _ => 0))), (q3, .inl (cy 0, 13, .inl (fun _ => 0))), (q4, .inl (cy 0, 13, .inl (fun _ => 0))), (q5, .inl (cy 1, 169, .inr (.inl (fun _ => 0)))), (q6, .inl (cy 1, 169, .inr (.inl (fun _ => 0)))), (q7, .inl (cy 0, 169, .inl (fun _ => 0)))]) H := hP
  have hD : va_D A (W0 ++ [(h0, .inr (9, [.ref q1, .int 0, .int 0, .ref q2, .ref q3, .ref q4, .ref q5, .ref q6, .null, .null])), (q1, .inr (5, [.long 0, .long 1])), (q2, .inl (cy 0, 13, .inl (fun _ => 0))), (q3, .inl (cy 0, 13, .inl (fun _ => 0))), (q4, .inl (cy 0, 13, .inl (fun _ => 0))), (q5, .inl (cy 1, 169, .inr (.inl (fun _ => 0)))), (q6, .inl (cy 1, 169, .inr (.inl (fun _ => 0)))), (q7, .inl (cy 0, 169, .inl (fun _ => 0)))]) := hD
  refine z_put (ci := 9) (k := 8) (i := 0) (v := .ref q7) hx hb hts hown hK hP hD hS (by decide) (by decide) rfl wk429 hin rfl rfl rfl (Nat.le_of_ble_eq_true rfl) dX9_init_63 (fun H locs hP hD hS => ?_)
  have hP : va_P D clss (W0 ++ [(h0, .inr (9, [.ref q1, .int 0, .int 0, .ref q2, .ref q3, .ref q4, .ref q5, .ref q6, .ref q7, .null])), (q1, .inr (5, [.long 0, .long 1])), (q2, .inl (cy 0, 13, .inl (fun _ => 0))), (q3, .inl (cy 0, 13, .inl (fun _ => 0))), (q4, .inl (cy 0, 13, .inl (fun _ => 0))), (q5, .inl (cy 1, 169, .inr (.inl (fun _ => 0)))), (q6, .inl (cy 1, 169, .inr (.inl (fun _ => 0)))), (q7, .inl (cy 0, 169, .inl (fun _ => 0)))]) H := hP
  have hD : va_D A (W0 ++ [(h0, .inr (9, [.ref q1, .int 0, .int 0, .ref q2, .ref q3, .ref q4, .ref q5, .ref q6, .ref q7, .null])), (q1, .inr (5, [.long 0, .long 1])), (q2, .inl (cy 0, 13, .inl (fun _ => 0))), (q3, .inl (cy 0, 13, .inl (fun _ => 0))), (q4, .inl (cy 0, 13, .inl (fun _ => 0))), (q5, .inl (cy 1, 169, .inr (.inl (fun _ => 0)))), (q6, .inl (cy 1, 169, .inr (.inl (fun _ => 0)))), (q7, .inl (cy 0, 169, .inl (fun _ => 0)))]) := hD
  refine lv_aload_n hx hb dX9_init_66 rfl (lv_at hl 0 rfl) ?_
  refine z_new (ci := 5) (fs := [.long 0, .long 0]) hx hb hts hown hK hP hD hS hA (by decide) wk417 wk324 wk10 (by decide +kernel) (Nat.le_of_ble_eq_true rfl) (Nat.le_of_ble_eq_true rfl) dX9_init_67 (fun q8 H hP hD hS => ?_)
  have hP : va_P D clss (W0 ++ [(h0, .inr (9, [.ref q1, .int 0, .int 0, .ref q2, .ref q3, .ref q4, .ref q5, .ref q6, .ref q7, .null])), (q1, .inr (5, [.long 0, .long 1])), (q2, .inl (cy 0, 13, .inl (fun _ => 0))), (q3, .inl (cy 0, 13, .inl (fun _ => 0))), (q4, .inl (cy 0, 13, .inl (fun _ => 0))), (q5, .inl (cy 1, 169, .inr (.inl (fun _ => 0)))), (q6, .inl (cy 1, 169, .inr (.inl (fun _ => 0)))), (q7, .inl (cy 0, 169, .inl (fun _ => 0))), (q8, .inr (5, [.long 0, .long 0]))]) H := hP
  have hD : va_D A (W0 ++ [(h0, .inr (9, [.ref q1, .int 0, .int 0, .ref q2, .ref q3, .ref q4, .ref q5, .ref q6, .ref q7, .null])), (q1, .inr (5, [.long 0, .long 1])), (q2, .inl (cy 0, 13, .inl (fun _ => 0))), (q3, .inl (cy 0, 13, .inl (fun _ => 0))), (q4, .inl (cy 0, 13, .inl (fun _ => 0))), (q5, .inl (cy 1, 169, .inr (.inl (fun _ => 0)))), (q6, .inl (cy 1, 169, .inr (.inl (fun _ => 0)))), (q7, .inl (cy 0, 169, .inl (fun _ => 0))), (q8, .inr (5, [.long 0, .long 0]))]) := hD
  refine lv_dup hx hb dX9_init_70 rfl ?_
  refine z_call (va_runIN (As := []) (rest := [.ref q8, .ref h0]) ⟨hx, hb, hml, hown, hts⟩ (kX5 l D cy A (W0 ++ [(h0, .inr (9, [.ref q1, .int 0, .int 0, .ref q2, .ref q3, .ref q4, .ref q5, .ref q6, .ref q7, .null])), (q1, .inr (5, [.long 0, .long 1])), (q2, .inl (cy 0, 13, .inl (fun _ => 0))), (q3, .inl (cy 0, 13, .inl (fun _ => 0))), (q4, .inl (cy 0, 13, .inl (fun _ => 0))), (q5, .inl (cy 1, 169, .inr (.inl (fun _ => 0)))), (q6, .inl (cy 1, 169, .inr (.inl (fun _ => 0)))), (q7, .inl (cy 0, 169, .inl (fun _ => 0)))]) q8 ) ⟨va_cnB 0 hts (good_gt wk327) rfl rfl rfl (hN.1 (.methodLinkNest RX9 11 yX5_init "LikeYears") (by decide +kernel)) (hts _ wk10) (by decide +kernel) ⟨Nat.le_of_ble_eq_true rfl, Nat.le_of_ble_eq_true rfl⟩, rfl, hts _ wk326⟩ ⟨Pk_blind, fun U hU hW => ⟨rfl, va_K.moved hW.alike hK, by rw [hU, List.append_assoc]; exact hP, by rw [List.append_assoc]; exact hD, fun q hq => hA q (Nat.le_trans hS.1 (by rw [← hU]; exact hq)), NW.warm hW hN⟩⟩ rfl rfl hl.1 rfl (lv_room (Nat.le_of_ble_eq_true rfl)) dX9_init_71 ⟨Nat.le_of_ble_eq_true rfl, Nat.le_of_ble_eq_true rfl⟩) hS (fun w H locs hΦ hP hD hS => ?_)
  subst hΦ
  rw [List.append_assoc] at hP hD
  have hP : va_P D clss (W0 ++ [(h0, .inr (9, [.ref q1, .int 0, .int 0, .ref q2, .ref q3, .ref q4, .ref q5, .ref q6, .ref q7, .null])), (q1, .inr (5, [.long 0, .long 1])), (q2, .inl (cy 0, 13, .inl (fun _ => 0))), (q3, .inl (cy 0, 13, .inl (fun _ => 0))), (q4, .inl (cy 0, 13, .inl (fun _ => 0))), (q5, .inl (cy 1, 169, .inr (.inl (fun _ => 0)))), (q6, .inl (cy 1, 169, .inr (.inl (fun _ => 0)))), (q7, .inl (cy 0, 169, .inl (fun _ => 0))), (q8, .inr (5, [.long 0, .long 1]))]) H := hP
  have hD : va_D A (W0 ++ [(h0, .inr (9, [.ref q1, .int 0, .int 0, .ref q2, .ref q3, .ref q4, .ref q5, .ref q6, .ref q7, .null])), (q1, .inr (5, [.long 0, .long 1])), (q2, .inl (cy 0, 13, .inl (fun _ => 0))), (q3, .inl (cy 0, 13, .inl (fun _ => 0))), (q4, .inl (cy 0, 13, .inl (fun _ => 0))), (q5, .inl (cy 1, 169, .inr (.inl (fun _ => 0)))), (q6, .inl (cy 1, 169, .inr (.inl (fun _ => 0)))), (q7, .inl (cy 0, 169, .inl (fun _ => 0))), (q8, .inr (5, [.long 0, .long 1]))]) := hD
  refine z_put (ci := 9) (k := 9) (i := 0) (v := .ref q8) hx hb hts hown hK hP hD hS (by decide) (by decide) rfl wk430 hin rfl rfl rfl (Nat.le_of_ble_eq_true rfl) dX9_init_74 (fun H locs hP hD hS => ?_)
  have hP : va_P D clss (W0 ++ [(h0, .inr (9, [.ref q1, .int 0, .int 0, .ref q2, .ref q3, .ref q4, .ref q5, .ref q6, .ref q7, .ref q8])), (q1, .inr (5, [.long 0, .long 1])), (q2, .inl (cy 0, 13, .inl (fun _ => 0))), (q3, .inl (cy 0, 13, .inl (fun _ => 0))), (q4, .inl (cy 0, 13, .inl (fun _ => 0))), (q5, .inl (cy 1, 169, .inr (.inl (fun _ => 0)))), (q6, .inl (cy 1, 169, .inr (.inl (fun _ => 0)))), (q7, .inl (cy 0, 169, .inl (fun _ => 0))), (q8, .inr (5, [.long 0, .long 1]))]) H := hP
  have hD : va_D A (W0 ++ [(h0, .inr (9, [.ref q1, .int 0, .int 0, .ref q2, .ref q3, .ref q4, .ref q5, .ref q6, .ref q7, .ref q8])), (q1, .inr (5, [.long 0, .long 1])), (q2, .inl (cy 0, 13, .inl (fun _ => 0))), (q3, .inl (cy 0, 13, .inl (fun _ => 0))), (q4, .inl (cy 0, 13, .inl (fun _ => 0))), (q5, .inl (cy 1, 169, .inr (.inl (fun _ => 0)))), (q6, .inl (cy 1, 169, .inr (.inl (fun _ => 0)))), (q7, .inl (cy 0, 169, .inl (fun _ => 0))), (q8, .inr (5, [.long 0, .long 1]))]) := hD
  exact W.vret hx hb hr (fun t ht hW => ⟨rfl, _, ⟨q1, q2, q3, q4, q5, q6, q7, q8, rfl⟩, by rw [ht]; exact hP, hD, hS.F ht⟩) hS.2.2 dX9_init_77 hlocks
