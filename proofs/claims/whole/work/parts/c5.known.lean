/-! THE LAW: the classes known at its start -/
theorem k_first {s : State} {b : Nat} (hts : ∀ w ∈ lw_tbl, w.before #[Value.ref b] s = true) : ∃ (D : va_G) (cy : Nat → ClassId), va_K D clss (tysC cy) s := by
  have hin : ∀ x : Fin 13, Cond.instantiable (clss.getD x.val (RX0, TX0, 0)).1 (clss.getD x.val (RX0, TX0, 0)).2.2 ∈ lw_tbl := by decide +kernel
  have h1 : ∀ ci : Nat, ∃ q : ClassId × (Nat → Nat), ci < 13 → u_Kn s (clss.getD ci (RX0, TX0, 0)).1 (tOf ci) (clss.getD ci (RX0, TX0, 0)).2.2 q.1 q.2 := fun ci => by
    by_cases h : ci < 13
    · obtain ⟨a, i, hk⟩ := u_known (ws := gt) (fun w hw => hts w (gt_in hw)) (cls_ws h) (hts _ (hin ⟨ci, h⟩))
      exact ⟨(a, i), fun _ => hk⟩
    · exact ⟨((0 : Nat), fun _ => 0), fun z => absurd z h⟩
  have ar : ∀ ty : FieldType, Cond.arrayClass ty ∈ lw_tbl → (∀ C, ty ≠ .object C) → ∃ c : ClassId, ArrOfT s c ty ∧ s.vm.findClass ("[" ++ ty.toString) = some c := fun ty hty hno => by
    obtain ⟨c, k, comp, e1, e2, e3⟩ := Cond.arrayClass_spec (hts _ hty)
    refine ⟨c, fun n z => ⟨(fun k h => ?_), k, e2, comp, e3⟩, e1⟩
    first | exact absurd h (hno _) | (cases h)
  obtain ⟨c0, f0, g0⟩ := ar .int (gt_in wk86) (fun C h => by cases h)
  obtain ⟨c1, f1, g1⟩ := ar .long (gt_in wk87) (fun C h => by cases h)
  obtain ⟨c2, f2, g2⟩ := ar .byte (gt_in wk85) (fun C h => by cases h)
  obtain ⟨c3, f3, g3⟩ := ar .boolean (gt_in wk281) (fun C h => by cases h)
  obtain ⟨comp, c4, k4, p1, p2, p3, p4, p5⟩ := Cond.arrayOver_spec (n := "LikeYears$Book") (hts _ (by decide +kernel))
  refine ⟨(fun c => (h1 c).choose.1, fun c => (h1 c).choose.2), fun i => if i = 0 then c0 else if i = 1 then c1 else if i = 2 then c2 else if i = 3 then c3 else c4, fun c q hq => ?_, fun k q hq => ?_⟩
  · have hc : c < 13 := (List.getElem?_eq_some_iff.mp hq).1
    rw [cls_at hc] at hq
    obtain rfl := Option.some.inj hq
    exact (h1 c).choose_spec hc
  · have hk : k < 5 := (List.getElem?_eq_some_iff.mp hq).1
    match k, hk with
    | 0, _ => obtain rfl := Option.some.inj hq; exact ⟨f0, g0⟩
    | 1, _ => obtain rfl := Option.some.inj hq; exact ⟨f1, g1⟩
    | 2, _ => obtain rfl := Option.some.inj hq; exact ⟨f2, g2⟩
    | 3, _ => obtain rfl := Option.some.inj hq; exact ⟨f3, g3⟩
    | 4, _ =>
      obtain rfl := Option.some.inj hq
      exact ⟨fun n z => ⟨(fun k h => by cases h), k4, p3, comp, p4⟩, k4, comp, p3, p4, p1, p5⟩
theorem nw_first {s : State} {b : Nat} (hts : ∀ w ∈ lw_tbl, w.before #[Value.ref b] s = true) : NW s := by
  have hin : ∀ w ∈ nestL, w ∈ lw_tbl := by decide +kernel
  refine ⟨fun w hw => ?_, va_AO.of (hts _ (by decide +kernel))⟩
  have h := hts w (hin w hw)
  obtain ⟨a, i, x, c, rfl⟩ := nest_cases hw
  exact va_Nw.of rfl h
