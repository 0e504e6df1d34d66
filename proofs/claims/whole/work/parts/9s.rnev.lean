/-! CONTRACTS: the reference's line of never -/
def rNev0 (tk : Nat → Tk) (S : Rds) (j : Nat) : Except Fa (Rds × Nat) :=
  andT (rMk tk S (j + 1)) fun m => if S.mv m = true then .error (flt 3 (tk (j + 1))) else .ok (nevM S m, j + 2)
theorem rNev_0 {tk : Nat → Tk} {S : Rds} {j : Nat} : rNev tk S j = andT (rNev0 tk S j) fun x => andT (rG tk 59 x.2) fun j' => .ok (x.1, j') := by
  unfold rNev rNev0
  cases h1 : rMk tk S (j + 1) with
  | error e => rfl
  | ok m =>
    rw [andT_ok rfl, andT_ok rfl]
    by_cases q : S.mv m = true
    · rw [if_pos q, if_pos q]; rfl
    · rw [if_neg q, if_neg q]; rfl
section rnv
variable {Θ : Th} {d : Nat} {σ : Mem} {Q : Po} {b : Nat → Nat} {n : Nat} {law : Bool} {S : Rds}
theorem RdR_nev {m : Nat} (hS : RdR S σ) : RdR (nevM S m) (sI σ 137 m 1) := by
  obtain ⟨⟨a1, a2⟩, ⟨b1, b2, b3⟩, c1, c2⟩ := hS
  have ox : ∀ x, x ≠ 137 → (sI σ 137 m 1).1 x = σ.1 x := fun x hx => sI_ne hx
  refine ⟨⟨by rw [ox 124 (by decide)]; exact a1, fun i hi => ?_⟩, ⟨by rw [ox 124 (by decide)]; exact b1, fun i hi => ?_, fun i k hi hk => ?_⟩, by rw [ox 124 (by decide)]; exact c1, fun i hi => ?_⟩
  · obtain ⟨x1, x2, x3⟩ := a2 i hi
    refine ⟨x1, by rw [ox 128 (by decide)]; exact x2, ?_⟩
    show (sI σ 137 m 1).1 137 i = b01 (upN S.mv m true i)
    by_cases z : i = m
    · rw [z, sI_at, upN_at]; rfl
    · rw [sI_of _ _ (by omega), upN_ne z]; exact x3
  · rw [ox 130 (by decide), ox 131 (by decide), ox 132 (by decide), ox 133 (by decide)]; exact b2 i hi
  · rw [ox 129 (by decide)]; exact b3 i k hi hk
  · rw [ox 134 (by decide), ox 135 (by decide), ox 136 (by decide)]; exact c2 i hi
theorem c187 {j : Nat} (hn : n ≤ 1300) (hb : ∀ i, b i < 256) (h : TkR b n law j σ) (h4 : (tok b n law j).1 ≠ 4) (hS : RdR S σ) (hk : RdsOk S)
    (KE : ∀ e σ', rNev0 (tok b n law) S j = .error e → FrN σ σ' → FaR e σ' → Q none σ')
    (KO : ∀ S' j' σ', rNev0 (tok b n law) S j = .ok (S', j') → j < j' → RdsOk S' → FrN σ σ' → TkR b n law j' σ' → RdR S' σ' → Q none σ') : Cm Θ (d + 3) 187 [.ref 124] σ Q := by
  refine K187 (B187_0 ?_)
  refine c175n hn hb h h4 fun s1 f1 t1 => ⟨rfl, ?_⟩
  have hS1 := RdR_fr hS f1
  refine c185m (d := d) hn hb t1 hS1 hk (fun e s2 x he f2 t2 => ⟨_, rfl, fun _ => ⟨fun z => absurd z (FaR_n t2).1, fun _ => KE e s2 ?_ (frN_T (frT_tr f1 f2)) t2⟩, fun z => absurd z (FaR_n t2).2⟩) fun m he hm hk1 => ⟨_, rfl, fun z => absurd (TkR_0 t1).2 z, fun _ => ?_⟩
  · unfold rNev0; rw [andT_er he]
  have m6 := hk.1.1
  rw [nI_clamp (by omega), (hS1.1.2 m hm).2.2, nb_1]
  refine ⟨vp_in_nI (by omega) (by decide), fun z => ?_, fun z => ?_⟩
  · have hmv : S.mv m = false := b01_0.mp z
    refine ⟨fun _ => ⟨vp_in_nI (by omega) (by decide), ?_⟩, fun y => absurd (TkR_0 t1).1 y⟩
    have fN : FrN s1 (sI s1 137 m 1) := ⟨Fr.rfl.I (by simp [lsN]), fun y _ _ _ _ => sI_of _ _ (by omega), sI_of _ _ (by omega), sI_of _ _ (by omega), fun _ _ => rfl, rfl⟩
    have t2 : TkR b n law (j + 1) (sI s1 137 m 1) := TkR_wr t1 (fun y _ => sI_of _ _ (by omega)) rfl (sI_ne (by decide))
    have hS2 := RdR_nev (m := m) hS1
    refine c175n hn hb t2 (by omega) fun s3 f3 t3 => ⟨rfl, KO (nevM S m) (j + 2) s3 ?_ (by omega) hk (frN_tr (frN_T f1) (frN_tr fN (frN_T f3))) t3 (RdR_fr hS2 f3)⟩
    unfold rNev0; rw [andT_ok he, if_neg (by rw [hmv]; decide)]
  · have hmv : S.mv m = true := b01_n.mp z
    refine c176 (f := 3) hn hb t1 (by omega) (by omega) fun s f t => ⟨rfl, fun y => absurd y (FaR_n t).1, fun _ => KE _ s ?_ (frN_T (frT_tr f1 f)) t⟩
    unfold rNev0; rw [andT_ok he, if_pos hmv]
end rnv
