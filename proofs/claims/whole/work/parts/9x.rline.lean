/-! CONTRACTS: the reference's line of a book -/
def FrL (σ σ' : Mem) : Prop := Fr lsN σ σ' ∧ (∀ y, 9 ≤ y → y ≠ 24 → y ≠ 25 → y ≠ 26 → y ≠ 27 → σ'.1 124 y = σ.1 124 y) ∧ σ'.1 124 1 = σ.1 124 1 ∧ σ'.1 124 0 = σ.1 124 0 ∧ (∀ y, y ≠ 9 → σ'.2.1 124 y = σ.2.1 124 y) ∧ σ'.2.2 124 = σ.2.2 124
theorem frL_rfl {σ : Mem} : FrL σ σ := ⟨Fr.rfl, fun _ _ _ _ _ _ => rfl, rfl, rfl, fun _ _ => rfl, rfl⟩
theorem frL_tr {σ σ' σ'' : Mem} (h : FrL σ σ') (h' : FrL σ' σ'') : FrL σ σ'' :=
  ⟨h.1.tr h'.1, fun y a c e f g => (h'.2.1 y a c e f g).trans (h.2.1 y a c e f g), h'.2.2.1.trans h.2.2.1, h'.2.2.2.1.trans h.2.2.2.1, fun y a => (h'.2.2.2.2.1 y a).trans (h.2.2.2.2.1 y a), h'.2.2.2.2.2.trans h.2.2.2.2.2⟩
theorem frL_N {σ σ' : Mem} (h : FrN σ σ') : FrL σ σ' :=
  ⟨h.1, fun y a c e f _ => h.2.1 y a c e f, h.2.2.1, h.2.2.2.1, h.2.2.2.2.1, h.2.2.2.2.2⟩
theorem frL_27 {σ σ' : Mem} {x : Int32} (h : FrL σ σ') : FrL σ (sI σ' 124 27 x) :=
  ⟨h.1.I (by simp [lsN]), fun y a c e f g => by rw [sI_of _ _ (by omega)]; exact h.2.1 y a c e f g, by rw [sI_of _ _ (by omega)]; exact h.2.2.1, by rw [sI_of _ _ (by omega)]; exact h.2.2.2.1, h.2.2.2.2.1, h.2.2.2.2.2⟩
section rln
variable {Θ : Th} {d : Nat} {σ : Mem} {Q : Po} {b : Nat → Nat} {n : Nat} {law : Bool} {S : Rds}
theorem c190f {e : Fa} (t : FaR e σ) (K : Q none σ) : G Θ (d + 3 + 1) 190 100 [some (.ref 124)] [] σ Q :=
  B190_100 ⟨fun _ => B190_121 ⟨fun z => absurd z (FaR_n t).1, fun _ => K⟩, fun z => absurd z (FaR_n t).2⟩
theorem l59 (hn : n ≤ 1300) (hb : ∀ i, b i < 256) (j : Nat) : nI (srt (tok b n law j)) = 59 ↔ ((tok b n law j).1 = 3 ∧ (tok b n law j).2.2 = 59) := by
  rw [← srt_c (law := law) hn j (show 40 ≤ 59 by omega)]
  exact nI_eq (b := 59) (by have := srt_lt (law := law) hn hb j; omega) (by omega)
theorem RdR_27 {x : Int32} (hS : RdR S σ) : RdR S (sI σ 124 27 x) := by
  obtain ⟨⟨a1, a2⟩, ⟨b1, b2, b3⟩, c1, c2⟩ := hS
  have ox : ∀ y, y ≠ 124 → (sI σ 124 27 x).1 y = σ.1 y := fun y hy => sI_ne hy
  refine ⟨⟨by rw [sI_of _ _ (by omega)]; exact a1, fun i hi => ?_⟩, ⟨by rw [sI_of _ _ (by omega)]; exact b1, fun i hi => ?_, fun i m hi hm => ?_⟩, by rw [sI_of _ _ (by omega)]; exact c1, fun i hi => ?_⟩
  · rw [ox 128 (by omega), ox 137 (by omega)]; exact a2 i hi
  · rw [ox 130 (by omega), ox 131 (by omega), ox 132 (by omega), ox 133 (by omega)]; exact b2 i hi
  · rw [ox 129 (by omega)]; exact b3 i m hi hm
  · rw [ox 134 (by omega), ox 135 (by omega), ox 136 (by omega)]; exact c2 i hi
theorem c190t {j l : Nat} (hn : n ≤ 1300) (hb : ∀ i, b i < 256) (t : TkR b n law j σ) (hS : RdR S σ) (hl : σ.1 124 27 = nI l)
    (KE : ∀ e s, rG (tok b n law) 59 j = .error e → FrL σ s → FaR e s → Q none s)
    (KO : ∀ s, rG (tok b n law) 59 j = .ok (j + 1) → FrL σ s → TkR b n law (j + 1) s → RdR S s → s.1 124 27 = nI (l + 1) → Q none s) : G Θ (d + 3 + 1) 190 100 [some (.ref 124)] [] σ Q := by
  refine B190_100 ⟨fun z => absurd (TkR_0 t).2 z, fun _ => ?_⟩
  rw [(TkR_st t).1, l59 hn hb]
  refine ⟨fun q => B190_121 ⟨fun _ => ?_, fun z => absurd (TkR_0 t).1 z⟩, fun q => ?_⟩
  · refine c175n hn hb t (by omega) fun s f t' => ⟨rfl, ?_⟩
    have e : s.1 124 27 = nI l := by rw [f.2.1 27 (by omega)]; exact hl
    try dsimp only
    rw [e, nI_1]
    exact KO _ (if_pos q) (frL_27 (frL_N (frN_T f))) (TkR_wr t' (fun y _ => sI_of _ _ (by omega)) rfl (sI_ne (by decide))) (RdR_27 (RdR_fr hS f)) (sI_at _ _ _ _)
  · exact c176 (f := 2) hn hb t (by omega) (by omega) fun s f t' => ⟨rfl, B190_121 ⟨fun z => absurd z (FaR_n t').1, fun _ => KE _ s (if_neg q) (frL_N (frN_T f)) t'⟩⟩
theorem c190 {j l : Nat} (hn : n ≤ 1300) (hb : ∀ i, b i < 256) (h : TkR b n law j σ) (hS : RdR S σ) (hk : RdsOk S) (hl : σ.1 124 27 = nI l)
    (KE : ∀ e σ', rLine (tok b n law) S j = .error e → FrL σ σ' → FaR e σ' → Q none σ')
    (KO : ∀ S' j' σ', rLine (tok b n law) S j = .ok (S', j') → j < j' → RdsOk S' → FrL σ σ' → TkR b n law j' σ' → RdR S' σ' → σ'.1 124 27 = nI (l + 1) → Q none σ') : Cm Θ (d + 4) 190 [.ref 124] σ Q := by
  obtain ⟨km, kc, kt⟩ := hk.1
  -- none of the lines
  have no : rLine (tok b n law) S j = .error (flt 2 (tok b n law j)) → G Θ (d + 3 + 1) 190 95 [some (.ref 124)] [] σ Q := fun e =>
    B190_95 (c176 (f := 2) hn hb h (by omega) (by omega) fun s f t => ⟨rfl, c190f t (KE _ s e (frL_N (frN_T f)) t)⟩)
  -- behind a line without its sign
  have fin : ∀ (S' : Rds) (j1 : Nat) (s : Mem), j < j1 → RdsOk S' → FrN σ s → TkR b n law j1 s → RdR S' s → (∀ e, rG (tok b n law) 59 j1 = .error e → rLine (tok b n law) S j = .error e) → (rG (tok b n law) 59 j1 = .ok (j1 + 1) → rLine (tok b n law) S j = .ok (S', j1 + 1)) → G Θ (d + 3 + 1) 190 100 [some (.ref 124)] [] s Q := fun S' j1 s hj hk' f t hS' e1 e2 => by
    have hl' : s.1 124 27 = nI l := by rw [f.2.1 27 (by omega) (by omega) (by omega) (by omega)]; exact hl
    exact c190t hn hb t hS' hl' (fun e s' he f' t' => KE e s' (e1 e he) (frL_tr (frL_N f) f') t') fun s' he f' t' hS'' hl'' => KO S' (j1 + 1) s' (e2 he) (by omega) hk' (frL_tr (frL_N f) f') t' hS'' hl''
  have g69 : ¬ ((tok b n law j).1 = 1 ∧ (tok b n law j).2.2 = 474148660594) → (∀ x, ((tok b n law j).1 = 1 ∧ (tok b n law j).2.2 = 1953459300 → rTold (tok b n law) S j = x) → (¬ ((tok b n law j).1 = 1 ∧ (tok b n law j).2.2 = 1953459300) → Except.error (flt 2 (tok b n law j)) = x) → rLine (tok b n law) S j = x) → G Θ (d + 3 + 1) 190 69 [some (.ref 124)] [] σ Q := fun q2 eL => by
    refine B190_69 ?_
    rw [w_told]
    refine ci (fun _ => c177 hn hb h (by decide)) ?_
    by_cases q : (tok b n law j).1 = 1 ∧ (tok b n law j).2.2 = 1953459300
    · rw [if_pos q]
      refine ⟨fun z => absurd z (by decide), fun _ => ?_⟩
      have l20 : (20 : Int32) ≤ nI S.t ↔ 20 ≤ S.t := nI_leI (a := 20) (by omega) (by omega)
      rw [hS.2.2.1, l20]
      refine ⟨fun z => no (eL _ (fun _ => by unfold rTold; rw [if_pos z]) fun z' => absurd q z'), fun z => ?_⟩
      have e0 := rTold_0 (tk := tok b n law) (j := j) (show S.t < 20 by omega)
      refine c189 (d := d) hn hb h (by omega) hS hk (by omega) (fun e s he f t => ⟨rfl, c190f t (KE e s (eL _ (fun _ => by rw [e0, andT_er he]) fun z' => absurd q z') (frL_N f) t)⟩) fun S' j1 s he hj hk' f t hS' => ⟨rfl, fin S' j1 s hj hk' f t hS' (fun e he' => eL _ (fun _ => by rw [e0, andT_ok he, andT_er he']) fun z' => absurd q z') fun he' => eL _ (fun _ => by rw [e0, andT_ok he, andT_ok he']) fun z' => absurd q z'⟩
    · rw [if_neg q]
      exact ⟨fun _ => no (eL _ (fun z => absurd z q) fun _ => rfl), fun z => absurd rfl z⟩
  have g26 : (∀ x, ¬ ((tok b n law j).1 = 1 ∧ (tok b n law j).2.2 = 1835102827) → ((if (tok b n law j).1 = 1 ∧ (tok b n law j).2.2 = 474148660594 then rNev (tok b n law) S j else if (tok b n law j).1 = 1 ∧ (tok b n law j).2.2 = 1667330917 then rCase (tok b n law) S j else if (tok b n law j).1 = 1 ∧ (tok b n law j).2.2 = 1953459300 then rTold (tok b n law) S j else .error (flt 2 (tok b n law j))) = x) → rLine (tok b n law) S j = x) → ((tok b n law j).1 = 1 ∧ (tok b n law j).2.2 = 1835102827 → rLine (tok b n law) S j = .error (flt 2 (tok b n law j))) → G Θ (d + 3 + 1) 190 26 [some (.ref 124)] [] σ Q := fun eL eM => by
    refine B190_26 ?_
    rw [w_never]
    refine ci (fun _ => c177 hn hb h (by decide)) ?_
    by_cases q : (tok b n law j).1 = 1 ∧ (tok b n law j).2.2 = 474148660594
    · rw [if_pos q]
      refine ⟨fun z => absurd z (by decide), fun _ => ?_⟩
      have eR : ∀ x, rNev (tok b n law) S j = x → rLine (tok b n law) S j = x := fun x hx => eL x (by omega) (by rw [if_pos q]; exact hx)
      have e0 := rNev_0 (tk := tok b n law) (S := S) (j := j)
      refine c187 (d := d) hn hb h (by omega) hS hk (fun e s he f t => ⟨rfl, c190f t (KE e s (eR _ (by rw [e0, andT_er he])) (frL_N f) t)⟩) fun S' j1 s he hj hk' f t hS' => ⟨rfl, fin S' j1 s hj hk' f t hS' (fun e he' => eR _ (by rw [e0, andT_ok he, andT_er he'])) fun he' => eR _ (by rw [e0, andT_ok he, andT_ok he'])⟩
    · rw [if_neg q]
      refine ⟨fun _ => ?_, fun z => absurd rfl z⟩
      rw [w_case]
      refine ci (fun _ => c177 hn hb h (by decide)) ?_
      by_cases q3 : (tok b n law j).1 = 1 ∧ (tok b n law j).2.2 = 1667330917
      · rw [if_pos q3]
        refine ⟨fun z => absurd z (by decide), fun _ => ?_⟩
        have eR : ∀ x, rCase (tok b n law) S j = x → rLine (tok b n law) S j = x := fun x hx => eL x (by omega) (by rw [if_neg q, if_pos q3]; exact hx)
        have l16 : (16 : Int32) ≤ nI S.c ↔ 16 ≤ S.c := nI_leI (a := 16) (by omega) (by omega)
        rw [hS.2.1.1, l16]
        refine ⟨fun z => g69 q fun x h1 h2 => eR x ?_, fun z => ?_⟩
        · have e1 := h2 (by omega)
          rw [← e1]
          unfold rCase
          rw [if_pos z]
        have e0 := rCase_0 (tk := tok b n law) (j := j) (show S.c < 16 by omega)
        refine c188 (d := d) hn hb h (by omega) hS hk (by omega) (fun e s he f t => ⟨rfl, c190f t (KE e s (eR _ (by rw [e0, andT_er he])) (frL_N f) t)⟩) fun S' j1 s he hj hk' f t hS' => ⟨rfl, fin S' j1 s hj hk' f t hS' (fun e he' => eR _ (by rw [e0, andT_ok he, andT_er he'])) fun he' => eR _ (by rw [e0, andT_ok he, andT_ok he'])⟩
      · rw [if_neg q3]
        refine ⟨fun _ => g69 q fun x h1 h2 => ?_, fun z => absurd rfl z⟩
        by_cases qm : (tok b n law j).1 = 1 ∧ (tok b n law j).2.2 = 1835102827
        · rw [eM qm]; exact h2 (by omega)
        · refine eL x qm ?_
          rw [if_neg q, if_neg q3]
          by_cases q4 : (tok b n law j).1 = 1 ∧ (tok b n law j).2.2 = 1953459300
          · rw [if_pos q4]; exact h1 q4
          · rw [if_neg q4]; exact h2 q4
  refine K190 (B190_0 ?_)
  rw [w_mark]
  refine ci (fun _ => c177 hn hb h (by decide)) ?_
  by_cases q1 : (tok b n law j).1 = 1 ∧ (tok b n law j).2.2 = 1835102827
  · rw [if_pos q1]
    have eR : ∀ x, rMark (tok b n law) S j = x → rLine (tok b n law) S j = x := fun x hx => (if_pos q1).trans hx
    refine ⟨fun z => absurd z (by decide), fun _ => ?_⟩
    have l6 : (6 : Int32) ≤ nI S.m ↔ 6 ≤ S.m := nI_leI (a := 6) (by omega) (by omega)
    rw [hS.1.1, l6]
    refine ⟨fun z => g26 (fun x q _ => absurd q1 q) fun _ => eR _ (by unfold rMark; rw [if_pos z]), fun z => ?_⟩
    have e0 := rMark_0 (tk := tok b n law) (j := j) (show S.m < 6 by omega)
    refine c186 (d := d) hn hb h (by omega) hS hk (by omega) (fun e s he f t => ⟨rfl, c190f t (KE e s (eR _ (by rw [e0, andT_er he])) (frL_N f) t)⟩) fun S' j1 s he hj hk' f t hS' => ⟨rfl, fin S' j1 s hj hk' f t hS' (fun e he' => eR _ (by rw [e0, andT_ok he, andT_er he'])) fun he' => eR _ (by rw [e0, andT_ok he, andT_ok he'])⟩
  · rw [if_neg q1]
    exact ⟨fun _ => g26 (fun x _ hx => (if_neg q1).trans hx) fun z => absurd z q1, fun z => absurd rfl z⟩
end rln
