/-! THE LAW: what stands at its start -/
theorem env_first {s : State} {b : Nat} (hts : ∀ w ∈ lw_tbl, w.before #[Value.ref b] s = true) (hg : (Jvm.Cond.and given_1 narrow_1).before #[Value.ref b] s = true) {A : Nat → Prop} (hA : ∀ a : Nat, a < s.heap.size → ¬ A a) :
    ∃ nn st sv : Nat, va_Z "LikeYears" "NO_NAMES" "[J" (.ref nn) A s s.heap ∧ va_T .long nn 16 (fun i => .long (nnV i)) A s s.heap ∧ (vk_R "LikeYears$Tape" 77 "()<>=+-*" st s ∧ va_Nw (.fieldLinkNest "LikeYears$Tape" 88 "LikeYears" "NO_NAMES" "[J" "LikeYears") s) ∧
      vk_S 1 [8] [[40, 41, 60, 62, 61, 43, 45, 42]] (fun _ => st) (fun _ => sv) A s s.heap ∧ va_Z "java/lang/String" "COMPACT_STRINGS" "Z" (.int 1) A s s.heap := by
  have hs := flat_of_before _ hg
  have harr : (Cond.arrayOf (.static "LikeYears" "NO_NAMES" "[J") .long).before #[Value.ref b] s = true := hs _ (by decide +kernel)
  have hlen : (Cond.eq (.length (.static "LikeYears" "NO_NAMES" "[J")) (.int 16)).before #[Value.ref b] s = true := hs _ (by decide +kernel)
  have hel : ∀ j : Nat, j < 16 → (Term.elem (.static "LikeYears" "NO_NAMES" "[J") (.int (Int32.ofNat j))).eval #[Value.ref b] s none [] s = some (.long (nnV j)) := fun j hj => by
    have : ∀ x : Fin 16, (Cond.eq (.elem (.static "LikeYears" "NO_NAMES" "[J") (.int (Int32.ofNat x.val))) (.long (nnV x.val))) ∈ flatC (Jvm.Cond.and given_1 narrow_1) := by decide +kernel
    exact va_eqtl (hs _ (this ⟨j, hj⟩))
  obtain ⟨nn, h1, h2⟩ := va_Tof (N := 16) (f := fun i => .long (nnV i)) (A := A) (by decide) harr (va_eqt hlen) hel hA
  have z1 : va_Z "LikeYears" "NO_NAMES" "[J" (.ref nn) A s s.heap := va_Zref (hts _ (by decide +kernel)) (hts _ (by decide +kernel)) h1 hA
  have z2 : va_Z "java/lang/String" "COMPACT_STRINGS" "Z" (.int 1) A s s.heap := va_Zof (hts _ (by decide +kernel)) (hts _ (by decide +kernel)) (va_eqi (hs _ (by decide +kernel))) hA
  obtain ⟨adK, adV, k1, k2⟩ := vk_Sof (s := s) (args := #[Value.ref b]) (N := 1) (tm := fun _ => Term.string "LikeYears$Tape" 77) (len := [8]) (byt := [[40, 41, 60, 62, 61, 43, 45, 42]]) (A := A) (fun i _ => by
      match i with
      | 0 => exact (by decide : 8 < 2 ^ 31)
      | i + 1 => exact (by show (0 : Nat) < 2 ^ 31; decide))
    (fun i _ => hs _ (by decide +kernel)) (fun i _ => hs _ (by decide +kernel)) (fun i _ => hs _ (by decide +kernel)) (fun i hi => by
      have : i = 0 := by omega
      subst this
      exact hs _ (by decide +kernel)) (fun i hi j hj => by
      have : i = 0 := by omega
      subst this
      have hj : j < 8 := hj
      match j, hj with
      | 0, _ => exact hs _ (by decide +kernel)
      | 1, _ => exact hs _ (by decide +kernel)
      | 2, _ => exact hs _ (by decide +kernel)
      | 3, _ => exact hs _ (by decide +kernel)
      | 4, _ => exact hs _ (by decide +kernel)
      | 5, _ => exact hs _ (by decide +kernel)
      | 6, _ => exact hs _ (by decide +kernel)
      | 7, _ => exact hs _ (by decide +kernel)) (fun i j hi hj hij => by omega) hA
  have e0 := k2 0 (by omega)
  refine ⟨nn, adK 0, adV 0, z1, h2, ⟨vk_R.of (hts _ (by decide +kernel)) e0, va_Nw.of rfl (hts _ (by decide +kernel))⟩, ?_, z2⟩
  refine ⟨fun i hi => ?_, fun i j hi hj _ => by omega⟩
  have : i = 0 := by omega
  subst this
  exact k1.1 0 (by omega)
