/-! CONTRACTS: the reference's steps of a case -/
section rsp
variable {Θ : Th} {d : Nat} {Q : Po} {b : Nat → Nat} {n : Nat} {law : Bool} {S : Rds}
theorem RdR_x {σ : Mem} {l k : Nat} {x : Int32} (hl : l = 138 ∨ (l = 129 ∧ 6 * S.c ≤ k)) (hS : RdR S σ) : RdR S (sI σ l k x) := by
  obtain ⟨⟨a1, a2⟩, ⟨b1, b2, b3⟩, c1, c2⟩ := hS
  have ox : ∀ y, y ≠ l → (sI σ l k x).1 y = σ.1 y := fun y hy => sI_ne hy
  refine ⟨⟨by rw [ox 124 (by omega)]; exact a1, fun i hi => ?_⟩, ⟨by rw [ox 124 (by omega)]; exact b1, fun i hi => ?_, fun i m hi hm => ?_⟩, by rw [ox 124 (by omega)]; exact c1, fun i hi => ?_⟩
  · rw [ox 128 (by omega), ox 137 (by omega)]; exact a2 i hi
  · rw [ox 130 (by omega), ox 131 (by omega), ox 132 (by omega), ox 133 (by omega)]; exact b2 i hi
  · rw [sI_of _ _ (by omega)]; exact b3 i m hi hm
  · rw [ox 134 (by omega), ox 135 (by omega), ox 136 (by omega)]; exact c2 i hi
theorem c188s {x2 : Int64} (hn : n ≤ 1300) (hb : ∀ i, b i < 256) (hk : RdsOk S) : ∀ (f i : Nat) (told : Nat → Bool) (st : Nat → Nat) (j : Nat) (σ : Mem), i + f = 8 → i ≤ cN 6 told → (∀ m, told m = true → m < S.m) → (∀ m, m < 6 → (m < S.m → st m ≤ S.mt m) ∧ (S.m ≤ m → st m = 0)) → TkR b n law j σ → RdR S σ → S.c < 16 → (∀ m, m < 6 → σ.1 129 (6 * S.c + m) = nI (st m) ∧ σ.1 138 m = b01 (told m)) →
    (∀ e σ', rSteps0 (tok b n law) S f told st j = .error e → FrN σ σ' → FaR e σ' → Q none σ') →
    (∀ st' j' σ', rSteps0 (tok b n law) S f told st j = .ok (st', j') → j ≤ j' → (∀ m, m < 6 → (m < S.m → st' m ≤ S.mt m) ∧ (S.m ≤ m → st' m = 0)) → FrN σ σ' → (∀ y, 130 ≤ y → y ≤ 133 → σ'.1 y = σ.1 y) → TkR b n law j' σ' → RdR S σ' → (∀ m, m < 6 → σ'.1 129 (6 * S.c + m) = nI (st' m)) → G Θ (d + 3) 188 223 [some (.ref 124), some (.int (nI S.c)), some (.long x2), none, none] [] σ' Q) →
    G Θ (d + 3) 188 131 [some (.ref 124), some (.int (nI S.c)), some (.long x2), none, none] [] σ Q
  | 0, i, told, st, j, σ, hi, hc, ht, hst, h, hS, hc16, hr, KE, KO => by
    have := cN_max told 6
    omega
  | f + 1, i, told, st, j, σ, hi, hc, ht, hst, h, hS, hc16, hr, KE, KO => by
    have hm6 := hk.1.1
    have l59 : nI (srt (tok b n law j)) = 59 ↔ ((tok b n law j).1 = 3 ∧ (tok b n law j).2.2 = 59) := by
      rw [← srt_c (law := law) hn j (show 40 ≤ 59 by omega)]
      exact nI_eq (b := 59) (by have := srt_lt (law := law) hn hb j; omega) (by omega)
    refine B188_131 ⟨fun q => absurd (TkR_0 h).2 q, fun _ => ?_⟩
    rw [(TkR_st h).1, l59]
    by_cases q : (tok b n law j).1 = 3 ∧ (tok b n law j).2.2 = 59
    · refine ⟨fun _ => KO st j σ (if_pos q) (Nat.le_refl _) hst frN_rfl (fun _ _ _ => rfl) h hS fun m hm => (hr m hm).1, fun z => absurd q z⟩
    · have eU : rSteps0 (tok b n law) S (f + 1) told st j = andT (rMk (tok b n law) S j) fun m => if told m = true then .error (flt 3 (tok b n law j)) else andT (rN (tok b n law) 0 (S.mt m) (j + 1)) fun a => rSteps0 (tok b n law) S f (upN told m true) (upN st m a.1) a.2 := if_neg q
      refine ⟨fun z => absurd z q, fun _ => ?_⟩
      have bad : ∀ (e : Fa) (s : Mem) (x : Int32), FaR e s → Q none s → G Θ (d + 3) 188 176 [some (.ref 124), some (.int (nI S.c)), some (.long x2), none, some (.int x)] [] s Q := fun e s x hf hq => B188_176 ⟨fun z => absurd z (FaR_n hf).1, fun _ => hq⟩
      refine c185m (d := d) hn hb h hS hk (fun e s x he f2 t2 => ⟨_, rfl, fun _ => bad e s x t2 (KE e s ?_ (frN_T f2) t2), fun z => absurd z (FaR_n t2).2⟩) fun m he hm hk1 => ⟨_, rfl, fun z => absurd (TkR_0 h).2 z, fun _ => ?_⟩
      · rw [eU, andT_er he]
      rw [nI_clamp (by omega), (hr m (by omega)).2]
      refine ⟨vp_in_nI (by omega) (by decide), fun z => ?_, fun z => ?_⟩
      · have hto : told m = false := b01_0.mp z
        refine B188_176 ⟨fun _ => ?_, fun y => absurd (TkR_0 h).1 y⟩
        refine c175n hn hb h (by omega) fun s1 f1 t1 => ⟨rfl, ?_⟩
        have hS1 := RdR_fr hS f1
        try dsimp only
        rw [nI_clamp (by omega), nb_1]
        obtain ⟨s2, hs2⟩ : ∃ s2, s2 = sI s1 138 m 1 := ⟨_, rfl⟩
        rw [← hs2]
        have t2 : TkR b n law (j + 1) s2 := by rw [hs2]; exact TkR_w (by omega) t1
        have hS2 : RdR S s2 := by rw [hs2]; exact RdR_x (Or.inl rfl) hS1
        have F2 : FrN σ s2 := by rw [hs2]; exact frN_w (by omega) (frN_T f1)
        have hm11 := (hk.2.1 m hm).2.2
        rw [(hS2.1.2 m hm).2.1]
        refine ⟨vp_in_nI (by omega) (by decide), vp_in_nI (by omega) (by decide), ?_⟩
        have v96 : vp_in ((6 : Int32) * nI S.c + nI m) 96 := by rw [ix6r]; exact vp_in_nI (by omega) (by decide)
        refine c181 (d := d) (lo := 0) hn hb t2 (by decide) (by omega) (fun e s3 x he3 f3 t3 => ⟨_, rfl, v96, ?_⟩) fun s3 v he3 lv lv' f3 t3 => ⟨_, rfl, v96, ?_⟩
        · have t4 : FaR e (sI s3 129 ((6 : Int32) * nI S.c + nI m).toNatClampNeg x) := FaR_w (by omega) t3
          refine B188_131 ⟨fun _ => B188_223 ⟨fun y => absurd y (FaR_n t4).1, fun _ => KE e _ ?_ (frN_w (by omega) (frN_tr F2 (frN_T f3))) t4⟩, fun y => absurd y (FaR_n t4).2⟩
          rw [eU, andT_ok he, if_neg (by rw [hto]; decide), andT_er he3]
        · rw [ix6r, nI_clamp (by omega)]
          have hS3 := RdR_fr hS2 f3
          have t4 : TkR b n law (j + 1 + 1) (sI s3 129 (6 * S.c + m) (nI v)) := TkR_w (by omega) t3
          have hS4 : RdR S (sI s3 129 (6 * S.c + m) (nI v)) := RdR_x (Or.inr ⟨rfl, by omega⟩) hS3
          have F4 : FrN σ (sI s3 129 (6 * S.c + m) (nI v)) := frN_w (by omega) (frN_tr F2 (frN_T f3))
          have eR : rSteps0 (tok b n law) S (f + 1) told st j = rSteps0 (tok b n law) S f (upN told m true) (upN st m v) (j + 1 + 1) := by
            rw [eU, andT_ok he, if_neg (by rw [hto]; decide), andT_ok he3]
          refine c188s hn hb hk f (i + 1) (upN told m true) (upN st m v) (j + 1 + 1) _ (by omega) ?_ (fun k hk' => ?_) (fun k hk' => ?_) t4 hS4 hc16 (fun k hk' => ?_) (fun e s' he' f' t' => KE e s' (by rw [eR]; exact he') (frN_tr F4 f') t') fun st' j' s' he' hj hst' f' hy t' hS' hr' => KO st' j' s' (by rw [eR]; exact he') (by omega) hst' (frN_tr F4 f') (fun y y1 y2 => ?_) t' hS' hr'
          · have : cN 6 told < cN 6 (upN told m true) := cN_lt 6 (fun k _ hp => by
              by_cases z : k = m
              · rw [z, upN_at]
              · rw [upN_ne z]; exact hp) ⟨m, by omega, hto, upN_at⟩
            omega
          · by_cases z : k = m
            · rw [z]; exact hm
            · rw [upN_ne z] at hk'; exact ht k hk'
          · by_cases z : k = m
            · rw [z, upN_at]; exact ⟨fun _ => lv', fun h => by omega⟩
            · rw [upN_ne z]; exact hst k hk'
          · have g129 : s3.1 129 = σ.1 129 := by rw [(f3.1 129 (by decide)).1, hs2, sI_ne (by decide), (f1.1 129 (by decide)).1]
            have g138 : s3.1 138 = s2.1 138 := (f3.1 138 (by decide)).1
            have g1 : s1.1 138 = σ.1 138 := (f1.1 138 (by decide)).1
            by_cases z : k = m
            · rw [z, sI_at, sI_of _ _ (by omega), g138, hs2, sI_at, upN_at, upN_at]; exact ⟨rfl, rfl⟩
            · rw [sI_of _ _ (by omega), sI_of _ _ (by omega), g129, g138, hs2, sI_of _ _ (by omega), g1, upN_ne z, upN_ne z]; exact hr k hk'
          · rw [hy y y1 y2, sI_ne (by omega), (f3.1 y (by simp; omega)).1, hs2, sI_ne (by omega), (f1.1 y (by simp; omega)).1]
      · have hto : told m = true := b01_n.mp z
        refine c176 (f := 3) hn hb h (by omega) (by omega) fun s f' t => ⟨rfl, bad _ s _ t (KE _ s ?_ (frN_T f') t)⟩
        rw [eU, andT_ok he, if_pos hto]
end rsp
