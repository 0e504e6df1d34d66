/-! THE LAW: its loop -/
section lawl
variable {Θ : Th} {Q : Po}
theorem law_go (hN : Θ.2.2.2.2.1 < 2147483648) (hQ : ∀ σ, Q (some (.int 1)) σ) : ∀ (m k : Nat) (σ : Mem) (s : St), Θ.2.2.2.2.1 < 6 * (k + m) + 6 → 6 * k ≤ Θ.2.2.2.2.1 → OkS s → RC s σ → RR s σ → G Θ 151 294 18 [some (.ref 1000), some (.ref 0), some (.ref 124), some (.int (nI (6 * k)))] [] σ Q := by
  intro m
  have lim : ∀ k : Nat, 6 * k ≤ Θ.2.2.2.2.1 → (Int32.ofNat Θ.2.2.2.2.1 - 6 < nI (6 * k) ↔ Θ.2.2.2.2.1 < 6 * k + 6) := fun k hk => by
    have e : Int32.ofNat Θ.2.2.2.2.1 - 6 = iI ((Θ.2.2.2.2.1 : Int) - 6) := by
      rw [show Int32.ofNat Θ.2.2.2.2.1 = nI Θ.2.2.2.2.1 from rfl, show (6 : Int32) = nI 6 from rfl, iI_nI, iI_nI, iI_sub]; rfl
    rw [e, i_lt, iI_toInt (by omega) (by omega), nI_int (by omega)]
    omega
  induction m with
  | zero =>
    intro k σ s h1 h2 ok hC hR
    refine B294_18 ⟨fun _ => hQ σ, fun z => absurd ((lim k h2).mpr (by omega)) z⟩
  | succ m ih =>
    intro k σ s h1 h2 ok hC hR
    refine B294_18 ⟨fun _ => hQ σ, fun z => ?_⟩
    rw [lim k h2] at z
    have hk6 : 6 * k + 6 ≤ Θ.2.2.2.2.1 := by omega
    have go : ∀ (σ2 : Mem) (s2 : St), OkS s2 → RC s2 σ2 → RR s2 σ2 → G Θ 151 294 1345 [some (.ref 1000), some (.ref 0), some (.ref 124), some (.int (nI (6 * k)))] [] σ2 Q := fun σ2 s2 ok2 hC2 hR2 => by
      refine B294_1345 ?_
      rw [show nI (6 * k) + 6 = nI (6 * (k + 1)) by rw [show (6 : Int32) = nI 6 from rfl, nI_add]; congr 1]
      exact ih (k + 1) σ2 s2 (by omega) (by omega) ok2 hC2 hR2
    have v0 : vp_in (nI (6 * k)) Θ.2.2.2.2.1 := vp_in_nI (by omega) hN
    have v1 : vp_in (nI (6 * k) + 1) Θ.2.2.2.2.1 := by rw [nI_1]; exact vp_in_nI (by omega) hN
    have v2 : vp_in (nI (6 * k) + 2) Θ.2.2.2.2.1 := by rw [show (2 : Int32) = nI 2 from rfl, nI_add]; exact vp_in_nI (by omega) hN
    have v3 : vp_in (nI (6 * k) + 3) Θ.2.2.2.2.1 := by rw [show (3 : Int32) = nI 3 from rfl, nI_add]; exact vp_in_nI (by omega) hN
    have v4 : vp_in (nI (6 * k) + 4) Θ.2.2.2.2.1 := by rw [show (4 : Int32) = nI 4 from rfl, nI_add]; exact vp_in_nI (by omega) hN
    have v5 : vp_in (nI (6 * k) + 5) Θ.2.2.2.2.1 := by rw [show (5 : Int32) = nI 5 from rfl, nI_add]; exact vp_in_nI (by omega) hN
    refine ⟨v0, fun _ => go σ s ok hC hR, fun _ => ?_, fun _ => ?_, fun _ => ?_, fun _ => ?_, fun _ => ?_, fun _ => ?_, fun _ => ?_, fun _ => ?_, fun _ => ?_, fun _ => ?_, fun _ => ?_, fun _ => ?_, fun _ => ?_, fun _ => ?_, fun _ => ?_, fun _ => ?_, fun _ => ?_, fun _ => ?_, fun _ => ?_, fun _ => ?_, fun _ => ?_, fun _ => ?_, fun _ => ?_, fun _ => ?_, fun _ => ?_, fun _ => ?_, fun _ => ?_, fun _ => ?_, fun _ => ?_, fun _ => ?_, fun _ => ?_, fun _ => ?_, fun _ => ?_, fun _ => ?_, fun _ => ?_, fun _ => ?_, fun _ => ?_, fun _ => ?_⟩
    · refine ⟨v1, v2, v3, v4, v5, ?_⟩
      by_cases hn : s.n + 20 ≤ 1300
      · exact k117 hC ok (fun z => absurd hn z) fun s1 _ cc hC1 => ⟨_, rfl, v1, v2, v3, v4, v5, k168 (RR_CC hR cc) ok (fun z => absurd hn z) fun s2 _ cr hR2 => ⟨_, rfl, fun _ => go s2 _ (ok_feed ok hn) (RC_ref hC1 cr) hR2, fun z => absurd rfl z⟩⟩
      · exact k117 hC ok (fun _ => ⟨_, rfl, v1, v2, v3, v4, v5, k168 hR ok (fun _ => ⟨_, rfl, fun _ => go _ s ok hC hR, fun z => absurd rfl z⟩) fun s2 z => absurd z hn⟩) fun s1 z => absurd z hn
    · refine ⟨v1, ?_⟩
      by_cases hx : isN (Θ.2.2.2.2.2 (nI (6 * k) + 1).toNatClampNeg) (s.n + 1)
      · refine k118 hC ok (fun z => absurd hx z) fun n1 s1 hn1 e1 cc hC1 => ⟨_, rfl, v1, k170 (RR_CC hR cc) ok (fun z => absurd hx z) fun n2 s2 hn2 e2 cr hR2 => ⟨_, rfl, fun _ => ?_, fun z => absurd rfl z⟩⟩
        have hn13 := ok.1.2
        have e : n1 = n2 := (nI_eq (by omega) (by omega)).mp (e1.symm.trans e2)
        rw [← e] at hR2
        exact go s2 _ (ok_stT ok ok.1.1 (by omega)) (RC_ref hC1 cr) hR2
      · refine k118 hC ok (fun _ => ⟨_, rfl, v1, k170 hR ok (fun _ => ⟨_, rfl, fun _ => go _ s ok hC hR, fun z => absurd rfl z⟩) fun n2 s2 hn2 e2 _ _ => ?_⟩) fun n1 s1 hn1 e1 _ _ => ?_
        · have hn13 := ok.1.2
          exact absurd (by rw [e2]; exact (isN_nI (by omega)).mpr (by omega)) hx
        · have hn13 := ok.1.2
          exact absurd (by rw [e1]; exact (isN_nI (by omega)).mpr (by omega)) hx
    · exact k119 hC ok fun s1 cc ok1 hC1 => ⟨_, rfl, k191 (RR_CC hR cc) ok fun s2 cr hR2 => ⟨_, rfl, fun _ => go s2 _ ok1 (RC_ref hC1 cr) hR2, fun z => absurd rfl z⟩⟩
    · exact k120 hC ok fun s1 cc ok1 hC1 => ⟨_, rfl, k263 (RR_CC hR cc) ok fun s2 cr hR2 => ⟨_, rfl, fun _ => go s2 _ ok1 (RC_ref hC1 cr) hR2, fun z => absurd rfl z⟩⟩
    · exact ⟨v1, k121 hC ⟨_, rfl, v1, k192 hR ⟨_, rfl, fun _ => go _ s ok hC hR, fun z => absurd rfl z⟩⟩⟩
    · exact ⟨v1, v2, k122 hC ok fun s1 cc hC1 => ⟨_, rfl, v1, v2, k203 (RR_CC hR cc) ok fun s2 cr hR2 => ⟨_, rfl, fun _ => go s2 s ok (RC_ref hC1 cr) hR2, fun z => absurd rfl z⟩⟩⟩
    · exact ⟨v1, k123 hC ok fun s1 cc hC1 => ⟨_, rfl, v1, k207 (RR_CC hR cc) ok fun s2 cr hR2 => ⟨_, rfl, fun _ => go s2 s ok (RC_ref hC1 cr) hR2, fun z => absurd rfl z⟩⟩⟩
    · exact ⟨v1, k124 hC ok fun s1 cc hC1 => ⟨_, rfl, v1, k208 (RR_CC hR cc) ok fun s2 cr hR2 => ⟨_, rfl, fun _ => go s2 s ok (RC_ref hC1 cr) hR2, fun z => absurd rfl z⟩⟩⟩
    · exact ⟨v1, k125 hC ok fun s1 cc hC1 => ⟨_, rfl, v1, k209 (RR_CC hR cc) ok fun s2 cr hR2 => ⟨_, rfl, fun _ => go s2 s ok (RC_ref hC1 cr) hR2, fun z => absurd rfl z⟩⟩⟩
    · exact ⟨v1, v2, v3, k126 hC ok fun s1 cc hC1 => ⟨_, rfl, v1, v2, v3, k228 (RR_CC hR cc) ok fun s2 cr hR2 => ⟨_, rfl, fun _ => go s2 s ok (RC_ref hC1 cr) hR2, fun z => absurd (lc_eq.mpr rfl) z⟩⟩⟩
    · exact ⟨v1, v2, k127 hC ok fun s1 cc hC1 => ⟨_, rfl, v1, v2, k229 (RR_CC hR cc) ok fun s2 cr hR2 => ⟨_, rfl, fun _ => go s2 s ok (RC_ref hC1 cr) hR2, fun z => absurd (lc_eq.mpr rfl) z⟩⟩⟩
    · exact ⟨v1, k128 hC ok fun s1 cc hC1 => ⟨_, rfl, v1, k226 (RR_CC hR cc) ok fun s2 cr hR2 => ⟨_, rfl, fun _ => go s2 s ok (RC_ref hC1 cr) hR2, fun z => absurd rfl z⟩⟩⟩
    · exact ⟨v1, k129 hC ok fun s1 cc hC1 => ⟨_, rfl, v1, k231 (RR_CC hR cc) ok fun s2 cr hR2 => ⟨_, rfl, fun _ => go s2 s ok (RC_ref hC1 cr) hR2, fun z => absurd rfl z⟩⟩⟩
    · exact ⟨v1, v2, v3, k130 hC ok fun s1 cc hC1 => ⟨_, rfl, v1, v2, v3, k233 (RR_CC hR cc) ok fun s2 cr hR2 => ⟨_, rfl, fun _ => go s2 s ok (RC_ref hC1 cr) hR2, fun z => absurd (lc_eq.mpr rfl) z⟩⟩⟩
    · exact ⟨v1, v2, v3, k131 hC ok fun s1 cc hC1 => ⟨_, rfl, v1, v2, v3, k234 (RR_CC hR cc) ok fun s2 cr hR2 => ⟨_, rfl, fun _ => go s2 s ok (RC_ref hC1 cr) hR2, fun z => absurd (lc_eq.mpr rfl) z⟩⟩⟩
    · exact k132 hC ok fun s1 cc hC1 => ⟨_, rfl, k235 (RR_CC hR cc) ok fun s2 cr hR2 => ⟨_, rfl, fun _ => go s2 s ok (RC_ref hC1 cr) hR2, fun z => absurd rfl z⟩⟩
    · exact ⟨v1, v2, v3, k133 hC ok fun s1 cc hC1 => ⟨_, rfl, v1, v2, v3, k239 (RR_CC hR cc) ok fun s2 cr hR2 => ⟨_, rfl, fun _ => go s2 s ok (RC_ref hC1 cr) hR2, fun z => absurd (lc_eq.mpr rfl) z⟩⟩⟩
    · exact ⟨v1, v2, k134 hC ok fun s1 cc hC1 => ⟨_, rfl, v1, v2, k240 (RR_CC hR cc) ok fun s2 cr hR2 => ⟨_, rfl, fun _ => go s2 s ok (RC_ref hC1 cr) hR2, fun z => absurd rfl z⟩⟩⟩
    · exact ⟨v1, k135' hC ok fun s1 cc hC1 => ⟨_, rfl, v1, k243 (RR_CC hR cc) ok fun s2 cr hR2 => ⟨_, rfl, fun _ => go s2 s ok (RC_ref hC1 cr) hR2, fun z => absurd rfl z⟩⟩⟩
    · exact ⟨v1, v2, k136 hC ok fun s1 cc hC1 => ⟨_, rfl, v1, v2, k244 (RR_CC hR cc) ok fun s2 cr hR2 => ⟨_, rfl, fun _ => go s2 s ok (RC_ref hC1 cr) hR2, fun z => absurd (lc_eq.mpr rfl) z⟩⟩⟩
    · exact ⟨v1, v2, k137 hC ok fun s1 cc hC1 => ⟨_, rfl, v1, v2, k245 (RR_CC hR cc) ok fun s2 cr hR2 => ⟨_, rfl, fun _ => go s2 s ok (RC_ref hC1 cr) hR2, fun z => absurd (lc_eq.mpr rfl) z⟩⟩⟩
    · exact ⟨v1, v2, k138 hC ok fun s1 cc hC1 => ⟨_, rfl, v1, v2, k247 (RR_CC hR cc) ok fun s2 cr hR2 => ⟨_, rfl, fun _ => go s2 s ok (RC_ref hC1 cr) hR2, fun z => absurd (lc_eq.mpr rfl) z⟩⟩⟩
    · exact k139 hC ok fun s1 cc hC1 => ⟨_, rfl, k246 (RR_CC hR cc) ok fun s2 cr hR2 => ⟨_, rfl, fun _ => go s2 s ok (RC_ref hC1 cr) hR2, fun z => absurd rfl z⟩⟩
    · exact ⟨v1, v2, v3, v4, v5, k140 hC ok fun s1 cc hC1 => ⟨_, rfl, v1, v2, v3, v4, v5, k249 (RR_CC hR cc) ok fun s2 cr hR2 => ⟨_, rfl, fun _ => go s2 s ok (RC_ref hC1 cr) hR2, fun z => absurd rfl z⟩⟩⟩
    · exact ⟨v1, k141 hC ok fun s1 cc hC1 => ⟨_, rfl, v1, k268 (RR_CC hR cc) ok fun s2 cr hR2 => ⟨_, rfl, fun _ => go s2 s ok (RC_ref hC1 cr) hR2, fun z => absurd rfl z⟩⟩⟩
    · exact ⟨v1, k142 hC ok fun s1 cc hC1 => ⟨_, rfl, v1, k270 (RR_CC hR cc) ok fun s2 cr hR2 => ⟨_, rfl, fun _ => go s2 s ok (RC_ref hC1 cr) hR2, fun z => absurd rfl z⟩⟩⟩
    · exact ⟨v1, k143 hC ok fun s1 cc hC1 => ⟨_, rfl, v1, k250 (RR_CC hR cc) ok fun s2 cr hR2 => ⟨_, rfl, fun _ => go s2 s ok (RC_ref hC1 cr) hR2, fun z => absurd rfl z⟩⟩⟩
    · exact ⟨v1, v2, k144 hC ok fun s1 cc ok1 hC1 => ⟨_, rfl, v1, v2, k271 (RR_CC hR cc) ok fun s2 cr hR2 => ⟨_, rfl, fun _ => go s2 _ ok1 (RC_ref hC1 cr) hR2, fun z => absurd rfl z⟩⟩⟩
    · exact ⟨v1, fun q => ⟨v2, k145 hC ok fun s1 cc hC1 => ⟨_, rfl, v1, fun _ => ⟨v2, k273 (RR_CC hR cc) ok fun s2 cr hR2 => ⟨_, rfl, fun _ => go s2 s ok (RC_ref hC1 cr) hR2, fun z => absurd (lc_eq.mpr rfl) z⟩⟩, fun q' => absurd q q'⟩⟩, fun q => ⟨v2, k145 hC ok fun s1 cc hC1 => ⟨_, rfl, v1, fun q' => absurd q' q, fun _ => ⟨v2, k273 (RR_CC hR cc) ok fun s2 cr hR2 => ⟨_, rfl, fun _ => go s2 s ok (RC_ref hC1 cr) hR2, fun z => absurd (lc_eq.mpr rfl) z⟩⟩⟩⟩⟩
    · exact ⟨v1, k146 hC ok fun s1 cc hC1 => ⟨_, rfl, v1, k274 (RR_CC hR cc) ok fun s2 cr hR2 => ⟨_, rfl, fun _ => go s2 s ok (RC_ref hC1 cr) hR2, fun z => absurd rfl z⟩⟩⟩
    · exact ⟨v1, v2, v3, v4, k147 hC ok fun s1 cc ok1 hC1 => ⟨_, rfl, v1, v2, v3, v4, k277 (RR_CC hR cc) ok fun s2 cr hR2 => ⟨_, rfl, fun _ => go s2 _ ok1 (RC_ref hC1 cr) hR2, fun z => absurd rfl z⟩⟩⟩
    · exact ⟨v1, v2, fun q => k148 (b := false) hC ok fun s1 cc ok1 hC1 => ⟨_, rfl, v1, v2, fun _ => k278 (b := false) (RR_CC hR cc) ok fun s2 cr hR2 => ⟨_, rfl, fun _ => go s2 _ ok1 (RC_ref hC1 cr) hR2, fun z => absurd rfl z⟩, fun q' => absurd q q'⟩, fun q => k148 (b := true) hC ok fun s1 cc ok1 hC1 => ⟨_, rfl, v1, v2, fun q' => absurd q' q, fun _ => k278 (b := true) (RR_CC hR cc) ok fun s2 cr hR2 => ⟨_, rfl, fun _ => go s2 _ ok1 (RC_ref hC1 cr) hR2, fun z => absurd rfl z⟩⟩⟩
    · exact ⟨v1, v2, k149 hC ok fun s1 cc ok1 hC1 => ⟨_, rfl, v1, v2, k279 (RR_CC hR cc) ok fun s2 cr hR2 => ⟨_, rfl, fun _ => go s2 _ ok1 (RC_ref hC1 cr) hR2, fun z => absurd rfl z⟩⟩⟩
    · exact k150 hC ok fun s1 cc ok1 hC1 => ⟨_, rfl, k280 (RR_CC hR cc) ok fun s2 cr hR2 => ⟨_, rfl, fun _ => go s2 _ ok1 (RC_ref hC1 cr) hR2, fun z => absurd rfl z⟩⟩
    · exact k151 hC ok fun s1 cc ok1 hC1 => ⟨_, rfl, k281 (RR_CC hR cc) ok fun s2 cr hR2 => ⟨_, rfl, fun _ => go s2 _ ok1 (RC_ref hC1 cr) hR2, fun z => absurd rfl z⟩⟩
    · exact ⟨v1, k152 hC ok fun s1 cc ok1 hC1 => ⟨_, rfl, v1, k283 (RR_CC hR cc) ok fun s2 cr hR2 => ⟨_, rfl, fun _ => go s2 _ ok1 (RC_ref hC1 cr) hR2, fun z => absurd rfl z⟩⟩⟩
    · exact ⟨v1, k153 hC ok fun s1 cc ok1 hC1 => ⟨_, rfl, v1, k284 (RR_CC hR cc) ok fun s2 cr hR2 => ⟨_, rfl, fun _ => go s2 _ ok1 (RC_ref hC1 cr) hR2, fun z => absurd rfl z⟩⟩⟩
    · exact ⟨v1, k154 hC ok ⟨_, rfl, v1, k285 hR ok ⟨_, rfl, fun _ => go _ s ok hC hR, fun z => absurd rfl z⟩⟩⟩
end lawl
