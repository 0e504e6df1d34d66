/-! CONTRACTS: the reference's new names and old ones -/
theorem rsO_0 {o : Option Nat} (h : ∀ i, o = some i → i < 1000) : (0 ≤ rsO o ↔ o ≠ none) ∧ (rsO o < 0 ↔ o = none) := by
  cases o with
  | none => exact ⟨⟨fun q => absurd q (by decide), fun q => absurd rfl q⟩, ⟨fun _ => rfl, fun _ => by decide⟩⟩
  | some i =>
    have hi := h i rfl
    exact ⟨⟨fun _ q => (by cases q), fun _ => nI_le (a := 0) (Nat.zero_le i) (by omega)⟩, ⟨fun q => absurd q (nI_pos (by omega)), fun q => by cases q⟩⟩
/-- what the reference holds of a book while it reads it -/
def RdR (S : Rds) (σ : Mem) : Prop :=
  (σ.1 124 24 = nI S.m ∧ ∀ i, i < S.m → σ.2.1 126 i = jJ ((S.mn i : Nat) : Int) ∧ σ.1 128 i = nI (S.mt i) ∧ σ.1 137 i = b01 (S.mv i)) ∧
  (σ.1 124 25 = nI S.c ∧ (∀ i, i < S.c → σ.2.1 127 i = jJ ((S.cn i : Nat) : Int) ∧ σ.1 130 i = nI (S.cj i) ∧ σ.1 131 i = nI (S.cy i) ∧ σ.1 132 i = nI (S.cg i) ∧ σ.1 133 i = nI (S.cw i)) ∧ ∀ i m, i < S.c → m < 6 → σ.1 129 (6 * i + m) = nI (S.cs i m)) ∧
  (σ.1 124 26 = nI S.t ∧ ∀ i, i < S.t → σ.1 134 i = nI (S.ov i) ∧ σ.1 135 i = nI (S.un i) ∧ σ.1 136 i = nI (S.tp i))
theorem RdR_fr {S : Rds} {σ σ' : Mem} (h : RdR S σ) (hf : FrT σ σ') : RdR S σ' := by
  have e : ∀ x, 126 ≤ x → x ≤ 137 → σ'.1 x = σ.1 x ∧ σ'.2.1 x = σ.2.1 x := fun x h1 h2 => by
    have := hf.1 x (by simp; omega); exact ⟨this.1, this.2.1⟩
  have g : ∀ y, 9 ≤ y → σ'.1 124 y = σ.1 124 y := hf.2.1
  obtain ⟨⟨a1, a2⟩, ⟨b1, b2, b3⟩, c1, c2⟩ := h
  refine ⟨⟨by rw [g 24 (by omega)]; exact a1, fun i hi => ?_⟩, ⟨by rw [g 25 (by omega)]; exact b1, fun i hi => ?_, fun i m hi hm => ?_⟩, by rw [g 26 (by omega)]; exact c1, fun i hi => ?_⟩
  · rw [(e 126 (by omega) (by omega)).2, (e 128 (by omega) (by omega)).1, (e 137 (by omega) (by omega)).1]; exact a2 i hi
  · rw [(e 127 (by omega) (by omega)).2, (e 130 (by omega) (by omega)).1, (e 131 (by omega) (by omega)).1, (e 132 (by omega) (by omega)).1, (e 133 (by omega) (by omega)).1]; exact b2 i hi
  · rw [(e 129 (by omega) (by omega)).1]; exact b3 i m hi hm
  · rw [(e 134 (by omega) (by omega)).1, (e 135 (by omega) (by omega)).1, (e 136 (by omega) (by omega)).1]; exact c2 i hi
section rol
variable {Θ : Th} {d : Nat} {σ : Mem} {Q : Po} {b : Nat → Nat} {n : Nat} {law : Bool} {S : Rds}
theorem c182S {x1 : Int64} (hS : RdR S σ) (hk : RdsOk S) (K : ∀ x, (∀ w : Nat, x1 = jJ (w : Int) → w < 2 ^ 64 → x = rsO (fdN S.mn w S.m)) → Q (some (.int x)) σ) : Cm Θ d 182 [.ref 124, .long x1] σ Q :=
  c182 hS.1.1 hk.1.1 (fun i hi => ⟨(hS.1.2 i hi).1, (hk.2.1 i hi).1⟩) hk.2.2.2.2.1 K
theorem c183S {x1 : Int64} (hS : RdR S σ) (hk : RdsOk S) (K : ∀ x, (∀ w : Nat, x1 = jJ (w : Int) → w < 2 ^ 64 → x = rsO (fdN S.cn w S.c)) → Q (some (.int x)) σ) : Cm Θ d 183 [.ref 124, .long x1] σ Q :=
  c183 hS.2.1.1 hk.1.2.1 (fun i hi => ⟨(hS.2.1.2.1 i hi).1, (hk.2.2.1 i hi).1⟩) hk.2.2.2.2.2 K
theorem c184f {e : Fa} (h : FaR e σ) (K : Q (some (.long 0)) σ) : Cm Θ (d + 1) 184 [.ref 124] σ Q :=
  K184 (B184_0 ⟨fun q => absurd q (FaR_n h).1, fun _ => K⟩)
theorem c184 {j : Nat} (hn : n ≤ 1300) (hb : ∀ i, b i < 256) (h : TkR b n law j σ) (hS : RdR S σ) (hk : RdsOk S)
    (KE : ∀ e σ' x, rNew (tok b n law) S j = .error e → FrT σ σ' → FaR e σ' → Q (some (.long x)) σ')
    (KO : ∀ σ' v, rNew (tok b n law) S j = .ok (v, j + 1) → 0 < v → v < 2 ^ 64 → FrT σ σ' → TkR b n law (j + 1) σ' → Q (some (.long (jJ ((v : Nat) : Int)))) σ') : Cm Θ (d + 2) 184 [.ref 124] σ Q := by
  refine K184 (B184_0 ⟨fun _ => ?_, fun q => absurd (TkR_0 h).1 q⟩)
  refine ci (fun _ => c178 hn hb h) ?_
  by_cases q : isNm (tok b n law j) = true
  · rw [if_pos q]
    have q1 := isNm_1 q
    have bv := tok_v (law := law) hn hb j
    have hv := (TkR_st h).2.2.1 q1
    have hlt := bv.2.1 (by omega)
    have m6 := hk.1.1
    have c16' := hk.1.2.1
    refine ⟨fun _ => ?_, fun z => absurd z (by decide)⟩
    rw [hv]
    refine c182S hS hk fun x1 hx1 => ⟨_, rfl, ?_⟩
    rw [hx1 _ rfl hlt]
    obtain ⟨p1, -⟩ := rsO_0 (o := fdN S.mn (tok b n law j).2.2 S.m) fun i hi => by have := (fdN_lt hi).1; omega
    rw [p1]
    have er : ¬ (fdN S.mn (tok b n law j).2.2 S.m = none ∧ fdN S.cn (tok b n law j).2.2 S.c = none) → rNew (tok b n law) S j = .error (flt 3 (tok b n law j)) := fun z => by
      unfold rNew; rw [if_pos q, if_neg z]
    refine ⟨fun z => c176 (f := 3) hn hb h (by omega) (by omega) fun s f t => ⟨rfl, fun _ => KE _ s _ (er fun y => z y.1) f t, fun y => absurd y (FaR_n t).2⟩, fun z => ?_⟩
    have z1 : fdN S.mn (tok b n law j).2.2 S.m = none := Classical.not_not.mp z
    refine c183S hS hk fun x2 hx2 => ⟨_, rfl, ?_⟩
    rw [hx2 _ hv hlt]
    obtain ⟨-, p2⟩ := rsO_0 (o := fdN S.cn (tok b n law j).2.2 S.c) fun i hi => by have := (fdN_lt hi).1; omega
    rw [p2]
    refine ⟨fun z2 => ⟨fun y => absurd (TkR_0 h).2 y, fun _ => c175n hn hb h (by omega) fun s f t => ⟨rfl, by
      have := KO s _ (by unfold rNew; rw [if_pos q, if_pos ⟨z1, z2⟩]) (bv.1 q1) hlt f t
      rw [← hv] at this
      exact this⟩⟩, fun z2 => c176 (f := 3) hn hb h (by omega) (by omega) fun s f t => ⟨rfl, fun _ => KE _ s _ (er fun y => z2 y.2) f t, fun y => absurd y (FaR_n t).2⟩⟩
  · rw [if_neg q]
    exact ⟨fun z => absurd rfl z, fun _ => c176 (f := 2) hn hb h (by omega) (by omega) fun s f t => ⟨rfl, fun _ => KE _ s _ (if_neg q) f t, fun y => absurd y (FaR_n t).2⟩⟩
theorem c185f {e : Fa} {x : Int32} (h : FaR e σ) (K : Q (some (.int 0)) σ) : Cm Θ (d + 1) 185 [.ref 124, .int x] σ Q :=
  K185 (B185_0 ⟨fun q => absurd q (FaR_n h).1, fun _ => K⟩)
theorem c185m {j : Nat} (hn : n ≤ 1300) (hb : ∀ i, b i < 256) (h : TkR b n law j σ) (hS : RdR S σ) (hk : RdsOk S)
    (KE : ∀ e σ' x, rMk (tok b n law) S j = .error e → FrT σ σ' → FaR e σ' → Q (some (.int x)) σ')
    (KO : ∀ m, rMk (tok b n law) S j = .ok m → m < S.m → (tok b n law j).1 = 1 → Q (some (.int (nI m))) σ) : Cm Θ (d + 2) 185 [.ref 124, .int 1] σ Q := by
  refine K185 (B185_0 ⟨fun _ => ⟨fun z => absurd z (by decide), fun _ => ?_⟩, fun q => absurd (TkR_0 h).1 q⟩)
  refine c182S hS hk fun x1 hx1 => ⟨_, rfl, ?_⟩
  refine ci (fun _ => c178 hn hb h) ?_
  by_cases q : isNm (tok b n law j) = true
  · rw [if_pos q]
    have q1 := isNm_1 q
    have hlt := (tok_v (law := law) hn hb j).2.1 (by omega)
    have m6 := hk.1.1
    refine ⟨fun _ => ?_, fun z => absurd z (by decide)⟩
    rw [hx1 _ ((TkR_st h).2.2.1 q1) hlt]
    obtain ⟨p1, -⟩ := rsO_0 (o := fdN S.mn (tok b n law j).2.2 S.m) fun i hi => by have := (fdN_lt hi).1; omega
    rw [p1]
    cases e : fdN S.mn (tok b n law j).2.2 S.m with
    | none => exact ⟨fun z => absurd rfl z, fun _ => c176 (f := 5) hn hb h (by omega) (by omega) fun s f t => ⟨rfl, KE _ s _ (by unfold rMk; rw [if_pos q, e]) f t⟩⟩
    | some i => exact ⟨fun _ => KO i (by unfold rMk; rw [if_pos q, e]) (fdN_lt e).1 q1, fun z => absurd (fun y => by cases y) z⟩
  · rw [if_neg q]
    exact ⟨fun z => absurd rfl z, fun _ => c176 (f := 2) hn hb h (by omega) (by omega) fun s f t => ⟨rfl, KE _ s _ (if_neg q) f t⟩⟩
theorem c185c {j : Nat} (hn : n ≤ 1300) (hb : ∀ i, b i < 256) (h : TkR b n law j σ) (hS : RdR S σ) (hk : RdsOk S)
    (KE : ∀ e σ' x, rCs (tok b n law) S j = .error e → FrT σ σ' → FaR e σ' → Q (some (.int x)) σ')
    (KO : ∀ c, rCs (tok b n law) S j = .ok (c, j + 1) → c < S.c → (tok b n law j).1 = 1 → Q (some (.int (nI c))) σ) : Cm Θ (d + 2) 185 [.ref 124, .int 0] σ Q := by
  refine K185 (B185_0 ⟨fun _ => ⟨fun _ => ?_, fun z => absurd rfl z⟩, fun q => absurd (TkR_0 h).1 q⟩)
  refine c183S hS hk fun x1 hx1 => ⟨_, rfl, ?_⟩
  refine ci (fun _ => c178 hn hb h) ?_
  by_cases q : isNm (tok b n law j) = true
  · rw [if_pos q]
    have q1 := isNm_1 q
    have hlt := (tok_v (law := law) hn hb j).2.1 (by omega)
    have m6 := hk.1.2.1
    refine ⟨fun _ => ?_, fun z => absurd z (by decide)⟩
    rw [hx1 _ ((TkR_st h).2.2.1 q1) hlt]
    obtain ⟨p1, -⟩ := rsO_0 (o := fdN S.cn (tok b n law j).2.2 S.c) fun i hi => by have := (fdN_lt hi).1; omega
    rw [p1]
    cases e : fdN S.cn (tok b n law j).2.2 S.c with
    | none => exact ⟨fun z => absurd rfl z, fun _ => c176 (f := 5) hn hb h (by omega) (by omega) fun s f t => ⟨rfl, KE _ s _ (by unfold rCs; rw [if_pos q, e]) f t⟩⟩
    | some i => exact ⟨fun _ => KO i (by unfold rCs; rw [if_pos q, e]) (fdN_lt e).1 q1, fun z => absurd (fun y => by cases y) z⟩
  · rw [if_neg q]
    exact ⟨fun z => absurd rfl z, fun _ => c176 (f := 2) hn hb h (by omega) (by omega) fun s f t => ⟨rfl, KE _ s _ (if_neg q) f t⟩⟩
end rol
