/-! CONTRACTS: the reference's line of a mark -/
def lsN : List Nat := [124, 126, 127, 128, 129, 130, 131, 132, 133, 134, 135, 136, 137, 138]
/-- what stays while the reference reads a line -/
def FrN (σ σ' : Mem) : Prop := Fr lsN σ σ' ∧ (∀ y, 9 ≤ y → y ≠ 24 → y ≠ 25 → y ≠ 26 → σ'.1 124 y = σ.1 124 y) ∧ σ'.1 124 1 = σ.1 124 1 ∧ σ'.1 124 0 = σ.1 124 0 ∧ (∀ y, y ≠ 9 → σ'.2.1 124 y = σ.2.1 124 y) ∧ σ'.2.2 124 = σ.2.2 124
theorem frN_rfl {σ : Mem} : FrN σ σ := ⟨Fr.rfl, fun _ _ _ _ _ => rfl, rfl, rfl, fun _ _ => rfl, rfl⟩
theorem frN_tr {σ σ' σ'' : Mem} (h : FrN σ σ') (h' : FrN σ' σ'') : FrN σ σ'' :=
  ⟨h.1.tr h'.1, fun y a c e f => (h'.2.1 y a c e f).trans (h.2.1 y a c e f), h'.2.2.1.trans h.2.2.1, h'.2.2.2.1.trans h.2.2.2.1, fun y a => (h'.2.2.2.2.1 y a).trans (h.2.2.2.2.1 y a), h'.2.2.2.2.2.trans h.2.2.2.2.2⟩
theorem frN_T {σ σ' : Mem} (h : FrT σ σ') : FrN σ σ' :=
  ⟨h.1.mono (by intro x hx; simp at hx; subst hx; simp [lsN]), fun y a _ _ _ => h.2.1 y a, h.2.2.1, h.2.2.2.1, h.2.2.2.2.1, h.2.2.2.2.2⟩
theorem nb_0 : vp_nar .boolean 0 = (0 : Int32) := by decide +kernel
theorem nb_1 : vp_nar .boolean 1 = (1 : Int32) := by decide +kernel
def rMark0 (tk : Nat → Tk) (S : Rds) (j : Nat) : Except Fa (Rds × Nat) :=
  andT (rNew tk S (j + 1)) fun a => andT (rWN tk 0x746F 1 11 a.2) fun c => .ok (addM S a.1 c.1, c.2)
theorem rMark_0 {tk : Nat → Tk} {S : Rds} {j : Nat} (h : S.m < 6) : rMark tk S j = andT (rMark0 tk S j) fun x => andT (rG tk 59 x.2) fun j' => .ok (x.1, j') := by
  unfold rMark rMark0
  rw [if_neg (by omega)]
  cases h1 : rNew tk S (j + 1) with
  | error e => rfl
  | ok a =>
    rw [andT_ok rfl, andT_ok rfl]
    cases h2 : rWN tk 0x746F 1 11 a.2 with
    | error e => rfl
    | ok c => rfl
section rmk
variable {Θ : Th} {d : Nat} {σ : Mem} {Q : Po} {b : Nat → Nat} {n : Nat} {law : Bool} {S : Rds}
/-- writes that do not touch the text and the token -/
theorem TkR_wr {j : Nat} {σ' : Mem} (h : TkR b n law j σ) (hI : ∀ y, y ≤ 10 → σ'.1 124 y = σ.1 124 y) (h9 : σ'.2.1 124 9 = σ.2.1 124 9) (h5 : σ'.1 125 = σ.1 125) : TkR b n law j σ' := by
  obtain ⟨⟨a1, a2, a3⟩, ⟨b1, b2⟩, c1, c2, c3, c4, c5⟩ := h
  refine ⟨⟨by rw [hI 5 (by omega)]; exact a1, by rw [h5]; exact a2, by rw [hI 10 (by omega)]; exact a3⟩, ⟨by rw [hI 2 (by omega)]; exact b1, by rw [hI 3 (by omega)]; exact b2⟩, by rw [hI 6 (by omega)]; exact c1, by rw [hI 7 (by omega)]; exact c2, fun q => by rw [h9]; exact c3 q, fun q => by rw [hI 8 (by omega)]; exact c4 q, fun q => by rw [hI 4 (by omega)]; exact c5 q⟩
theorem c186 {j : Nat} (hn : n ≤ 1300) (hb : ∀ i, b i < 256) (h : TkR b n law j σ) (h4 : (tok b n law j).1 ≠ 4) (hS : RdR S σ) (hk : RdsOk S) (hm : S.m < 6)
    (KE : ∀ e σ', rMark0 (tok b n law) S j = .error e → FrN σ σ' → FaR e σ' → Q none σ')
    (KO : ∀ S' j' σ', rMark0 (tok b n law) S j = .ok (S', j') → j < j' → RdsOk S' → FrN σ σ' → TkR b n law j' σ' → RdR S' σ' → Q none σ') : Cm Θ (d + 3) 186 [.ref 124] σ Q := by
  refine K186 (B186_0 ?_)
  refine c175n hn hb h h4 fun s1 f1 t1 => ⟨rfl, ?_⟩
  have hS1 := RdR_fr hS f1
  have bad : ∀ (e : Fa) (s : Mem) (v : Int64), FaR e s → (FaR e s → Q none s) → Cv Θ (d + 2) 180 [.ref 124, .long 29807] s (fun σ3 => Ci Θ (d + 2) 181 [.ref 124, .int 1, .int 11] σ3 (fun v4 σ4 => (((σ4.1 124 2) ≤ 0 → (vp_in (σ4.1 124 24) 6 ∧ (vp_in ((sL σ4 126 ((σ4.1 124 24).toNatClampNeg) v).1 124 24) 6 ∧ (vp_in ((sI (sL σ4 126 ((σ4.1 124 24).toNatClampNeg) v) 128 (((sL σ4 126 ((σ4.1 124 24).toNatClampNeg) v).1 124 24).toNatClampNeg) v4).1 124 24) 6 ∧ Q none (sI (sI (sI (sL σ4 126 ((σ4.1 124 24).toNatClampNeg) v) 128 (((sL σ4 126 ((σ4.1 124 24).toNatClampNeg) v).1 124 24).toNatClampNeg) v4) 137 (((sI (sL σ4 126 ((σ4.1 124 24).toNatClampNeg) v) 128 (((sL σ4 126 ((σ4.1 124 24).toNatClampNeg) v).1 124 24).toNatClampNeg) v4).1 124 24).toNatClampNeg) (vp_nar .boolean 0)) 124 24 (((sI (sI (sL σ4 126 ((σ4.1 124 24).toNatClampNeg) v) 128 (((sL σ4 126 ((σ4.1 124 24).toNatClampNeg) v).1 124 24).toNatClampNeg) v4) 137 (((sI (sL σ4 126 ((σ4.1 124 24).toNatClampNeg) v) 128 (((sL σ4 126 ((σ4.1 124 24).toNatClampNeg) v).1 124 24).toNatClampNeg) v4).1 124 24).toNatClampNeg) (vp_nar .boolean 0)).1 124 24) + 1)))))) ∧ (¬ (σ4.1 124 2) ≤ 0 → Q none σ4)))) := fun e s v hf hq =>
    c180f (d := d + 1) hf ⟨rfl, c181f (d := d + 1) hf ⟨_, rfl, fun z => absurd z (FaR_n hf).1, fun _ => hq hf⟩⟩
  refine c184 (d := d) hn hb t1 hS1 hk (fun e s2 x he f2 t2 => ⟨_, rfl, bad e s2 _ t2 fun t => KE e s2 ?_ (frN_T (frT_tr f1 f2)) t⟩) fun s2 w he hw hw' f2 t2 => ⟨_, rfl, ?_⟩
  · unfold rMark0; rw [andT_er he]
  have hS2 := RdR_fr hS1 f2
  rw [w_to]
  refine c180 (d := d) hn hb t2 (by decide) (fun e s3 he3 f3 t3 => ⟨rfl, ?_⟩) fun s3 he3 f3 t3 => ⟨rfl, ?_⟩
  · refine c181f (d := d + 1) t3 ⟨_, rfl, fun z => absurd z (FaR_n t3).1, fun _ => KE e s3 ?_ (frN_T (frT_tr (frT_tr f1 f2) f3)) t3⟩
    unfold rMark0; rw [andT_ok he]
    have : rWN (tok b n law) 29807 1 11 (j + 1 + 1) = .error e := by unfold rWN; rw [andT_er he3]
    rw [andT_er this]
  have hS3 := RdR_fr hS2 f3
  refine c181 (d := d) (lo := 1) (hi := 11) hn hb t3 (by decide) (by decide) (fun e s4 x he4 f4 t4 => ⟨_, rfl, fun z => absurd z (FaR_n t4).1, fun _ => KE e s4 ?_ (frN_T (frT_tr (frT_tr (frT_tr f1 f2) f3) f4)) t4⟩) fun s4 v he4 l1 l2 f4 t4 => ⟨_, rfl, fun _ => ?_, fun z => absurd (TkR_0 t4).1 z⟩
  · unfold rMark0; rw [andT_ok he]
    have : rWN (tok b n law) 29807 1 11 (j + 1 + 1) = .error e := by unfold rWN; rw [andT_ok he3, he4]
    rw [andT_er this]
  have hS4 := RdR_fr hS3 f4
  have f1234 := frN_T (frT_tr (frT_tr (frT_tr f1 f2) f3) f4)
  have hW : rWN (tok b n law) 29807 1 11 (j + 1 + 1) = .ok (v, j + 1 + 1 + 1 + 1) := by unfold rWN; rw [andT_ok he3, he4]
  have hR : rMark0 (tok b n law) S j = .ok (addM S w v, j + 1 + 1 + 1 + 1) := by unfold rMark0; rw [andT_ok he, andT_ok hW]
  obtain ⟨⟨a1, a2⟩, ⟨b1, b2, b3⟩, c1, c2⟩ := hS4
  have vm : vp_in (nI S.m) 6 := vp_in_nI (by omega) (by decide)
  obtain ⟨u1, hu1⟩ : ∃ u, u = sL s4 126 S.m (jJ ((w : Nat) : Int)) := ⟨_, rfl⟩
  obtain ⟨u2, hu2⟩ : ∃ u, u = sI u1 128 S.m (nI v) := ⟨_, rfl⟩
  obtain ⟨u3, hu3⟩ : ∃ u, u = sI u2 137 S.m 0 := ⟨_, rfl⟩
  obtain ⟨u4, hu4⟩ : ∃ u, u = sI u3 124 24 (nI (S.m + 1)) := ⟨_, rfl⟩
  have e1 : u1.1 124 24 = nI S.m := by rw [hu1, sL_I]; exact a1
  have e2 : u2.1 124 24 = nI S.m := by rw [hu2, sI_of _ _ (by omega)]; exact e1
  have e3 : u3.1 124 24 = nI S.m := by rw [hu3, sI_of _ _ (by omega)]; exact e2
  rw [nb_0, a1, nI_clamp (by omega), ← hu1, e1, nI_clamp (by omega), ← hu2, e2, nI_clamp (by omega), ← hu3, e3, nI_1, ← hu4]
  have oI : ∀ x k, ¬ (x = 128 ∧ k = S.m) → ¬ (x = 137 ∧ k = S.m) → ¬ (x = 124 ∧ k = 24) → u4.1 x k = s4.1 x k := fun x k q1 q2 q3 => by
    rw [hu4, sI_of _ _ q3, hu3, sI_of _ _ q2, hu2, sI_of _ _ q1, hu1, sL_I]
  have oL : ∀ x k, ¬ (x = 126 ∧ k = S.m) → u4.2.1 x k = s4.2.1 x k := fun x k q => by
    rw [hu4, sI_L, hu3, sI_L, hu2, sI_L, hu1, sL_of _ _ q]
  have oR : u4.2.2 = s4.2.2 := by rw [hu4, hu3, hu2, hu1]; rfl
  have fN : FrN s4 u4 := by
    refine ⟨?_, fun y a c e f => oI _ _ (by omega) (by omega) (by omega), oI _ _ (by omega) (by omega) (by omega), oI _ _ (by omega) (by omega) (by omega), fun y a => oL _ _ (by omega), by rw [oR]⟩
    rw [hu4, hu3, hu2, hu1]
    exact (((Fr.rfl.L (by simp [lsN])).I (by simp [lsN])).I (by simp [lsN])).I (by simp [lsN])
  refine ⟨vm, vm, vm, KO _ _ u4 hR (by omega) (ok_addM hk hm hw' ⟨l1, l2⟩ (ok_rNew he).1) (frN_tr f1234 fN) (TkR_wr t4 (fun y hy => oI _ _ (by omega) (by omega) (by omega)) (oL _ _ (by omega)) (by funext k; exact oI _ _ (by omega) (by omega) (by omega))) ⟨⟨by rw [hu4, sI_at]; rfl, fun i hi => ?_⟩, ⟨by rw [oI _ _ (by omega) (by omega) (by omega)]; exact b1, fun i hi => ?_, fun i m hi hm' => ?_⟩, by rw [oI _ _ (by omega) (by omega) (by omega)]; exact c1, fun i hi => ?_⟩⟩
  · have hi : i < S.m + 1 := hi
    show u4.2.1 126 i = jJ ((upN S.mn S.m w i : Nat) : Int) ∧ u4.1 128 i = nI (upN S.mt S.m v i) ∧ u4.1 137 i = b01 (upN S.mv S.m false i)
    by_cases z : i = S.m
    · rw [z, upN_at, upN_at, upN_at]
      refine ⟨?_, ?_, ?_⟩
      · rw [hu4, sI_L, hu3, sI_L, hu2, sI_L, hu1, sL_at]
      · rw [hu4, sI_of _ _ (by omega), hu3, sI_of _ _ (by omega), hu2, sI_at]
      · rw [hu4, sI_of _ _ (by omega), hu3, sI_at]; rfl
    · rw [upN_ne z, upN_ne z, upN_ne z, oL _ _ (by omega), oI _ _ (by omega) (by omega) (by omega), oI _ _ (by omega) (by omega) (by omega)]
      exact a2 i (by omega)
  · rw [oL _ _ (by omega), oI _ _ (by omega) (by omega) (by omega), oI _ _ (by omega) (by omega) (by omega), oI _ _ (by omega) (by omega) (by omega), oI _ _ (by omega) (by omega) (by omega)]; exact b2 i hi
  · rw [oI _ _ (by omega) (by omega) (by omega)]; exact b3 i m hi hm'
  · rw [oI _ _ (by omega) (by omega) (by omega), oI _ _ (by omega) (by omega) (by omega), oI _ _ (by omega) (by omega) (by omega)]; exact c2 i hi
end rmk
