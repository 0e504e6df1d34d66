/-! CONTRACTS: the fewest without which none clash: the reference goes through all sets -/
section ragain
variable {Θ : Th} {d : Nat} {σ : Mem} {Q : Po} {lv : Nat} {B : Bk} {D : Nat → Nat → Bool}
def okP (D : Nat → Nat → Bool) (g : Nat → Nat) (s a b : Nat) : Prop := s.testBit a = true ∨ s.testBit b = true ∨ gO D g a b = 0
theorem ok_cvr {n s : Nat} {g : Nat → Nat} (h : ∀ a b, a < n → b < n → okP D g s a b) : cvr n (clE D g) s := by
  intro a b ha hb hE
  have h1 := h a b ha hb
  have h2 := h b a hb ha
  have hE : 0 < gO D g a b + gO D g b a := of_decide_eq_true hE
  rcases h1 with h1 | h1 | h1
  · exact Or.inl h1
  · exact Or.inr h1
  · rcases h2 with h2 | h2 | h2
    · exact Or.inr h2
    · exact Or.inl h2
    · omega
theorem cvr_ok {n s : Nat} {g : Nat → Nat} (h : cvr n (clE D g) s) {a b : Nat} (ha : a < n) (hb : b < n) : okP D g s a b := by
  rcases Nat.eq_zero_or_pos (gO D g a b) with q | q
  · exact Or.inr (Or.inr q)
  · have hE : clE D g a b = true := decide_eq_true (show 0 < gO D g a b + gO D g b a by omega)
    rcases h a b ha hb hE with z | z
    · exact Or.inl z
    · exact Or.inr (Or.inl z)
theorem c231_57 {x1 x2 x3 : Int32} {s : Nat} (hs : s < 65536) (hB : BkR lv B σ) (hk : BkOk lv B) (hD : OrR B D σ)
    (K1 : cvr (bN B) (clE D (bG B)) s → G Θ (d + 2) 231 140 [some (.ref 124), some (.int x1), some (.int x2), some (.int x3), some (.int (nI s)), some (.int 1), none, none] [] σ Q)
    (K0 : ¬ cvr (bN B) (clE D (bG B)) s → G Θ (d + 2) 231 140 [some (.ref 124), some (.int x1), some (.int x2), some (.int x3), some (.int (nI s)), some (.int 0), none, none] [] σ Q) :
    G Θ (d + 2) 231 57 [some (.ref 124), some (.int x1), some (.int x2), some (.int x3), some (.int (nI s)), some (.int 1), some (.int 0), none] [] σ Q := by
  obtain ⟨hn, h16⟩ := bk_n hB hk
  refine loopS (α := Unit) (I := fun a _ => ∀ a' b, a' < a → b < bN B → okP D (bG B) s a' b) (P := fun a _ => G Θ (d + 2) 231 57 [some (.ref 124), some (.int x1), some (.int x2), some (.int x3), some (.int (nI s)), some (.int 1), some (.int (nI a)), none] [] σ Q) (bN B) ?_ ?_ () (fun a' b h => absurd h (Nat.not_lt_zero _))
  · intro _ hI
    exact B231_57 ⟨fun _ => K1 (ok_cvr fun a b ha hb => hI a b ha hb), fun h => absurd (by rw [hn]; exact nI_le (Nat.le_refl _) (by omega)) h⟩
  · intro a _ ha hI ih
    have ga := bk_g hB hk ha
    refine B231_57 ⟨fun h => absurd h (by rw [hn]; exact nI_ge ha (by omega)), fun _ => ⟨fun h => absurd h (by decide), fun _ => ?_⟩⟩
    refine loopS (α := Unit) (I := fun b _ => ∀ b', b' < b → okP D (bG B) s a b') (P := fun b _ => G Θ (d + 2) 231 74 [some (.ref 124), some (.int x1), some (.int x2), some (.int x3), some (.int (nI s)), some (.int 1), some (.int (nI a)), some (.int (nI b))] [] σ Q) (bN B) ?_ ?_ () (fun b' h => absurd h (Nat.not_lt_zero _))
    · intro _ hJ
      refine B231_74 ⟨fun _ => ?_, fun h => absurd (by rw [hn]; exact nI_le (Nat.le_refl _) (by omega)) h⟩
      refine B231_134 ?_
      rw [nI_1]
      refine ih () fun a' b ha' hb => ?_
      rcases Nat.lt_or_ge a' a with q | q
      · exact hI a' b q hb
      · have : a' = a := by omega
        subst this; exact hJ b hb
    · intro b _ hb hJ ih2
      have gb := bk_g hB hk hb
      have fwd : okP D (bG B) s a b → G Θ (d + 2) 231 121 [some (.ref 124), some (.int x1), some (.int x2), some (.int x3), some (.int (nI s)), none, some (.int (nI a)), some (.int (nI b))] [] σ Q := fun ho => by
        refine B231_121 ?_
        rw [nI_1]
        refine ih2 () fun b' hb' => ?_
        rcases Nat.lt_or_ge b' b with q | q
        · exact hJ b' q
        · have : b' = b := by omega
          subst this; exact ho
      refine B231_74 ⟨fun h => absurd h (by rw [hn]; exact nI_ge hb (by omega)), fun _ => ⟨fun h => absurd h (by decide), fun _ => ?_⟩⟩
      rw [bt_shr _ (by omega), bt_nI _ (by omega), bt_shr _ (by omega), bt_nI _ (by omega), bt_eq1, bt_eq1]
      refine ⟨fun h => fwd (Or.inl h), fun h => ⟨fun h2 => fwd (Or.inr (Or.inl h2)), fun h2 => ?_⟩⟩
      refine ci (fun _ => c204 (d := d) hB hk hD ha hb) ?_
      have gle : gO D (bG B) a b ≤ 240 := by unfold gO; split <;> omega
      refine ⟨fun h3 => ?_, fun h3 => fwd (Or.inr (Or.inr ?_))⟩
      · have hbad : ¬ cvr (bN B) (clE D (bG B)) s := fun hc => by
          rcases cvr_ok hc ha hb with z | z | z
          · exact h z
          · exact h2 z
          · exact h3 (by rw [z]; exact nI_0)
        have k0 := K0 hbad
        have tail : G Θ (d + 2) 231 134 [some (.ref 124), some (.int x1), some (.int x2), some (.int x3), some (.int (nI s)), some (.int 0), some (.int (nI a)), none] [] σ Q := by
          refine B231_134 ?_
          rw [nI_1]
          exact B231_57 ⟨fun _ => k0, fun _ => ⟨fun _ => k0, fun h => absurd rfl h⟩⟩
        exact B231_74 ⟨fun _ => tail, fun _ => ⟨fun _ => tail, fun h => absurd rfl h⟩⟩
      · rcases Nat.eq_zero_or_pos (gO D (bG B) a b) with z | z
        · exact z
        · exact absurd h3 (nI_ne0 z (by omega))
theorem all_tb (n c : Nat) : (2 ^ n - 1).testBit c = decide (c < n) := Nat.testBit_two_pow_sub_one _ _
theorem pc_lt {n s : Nat} (h16 : n ≤ 16) (hs : s < 2 ^ n - 1) : pc 16 s < pc 16 (2 ^ n - 1) := by
  have hp := Nat.two_pow_pos n
  refine cN_lt 16 (fun k _ h => by rw [all_tb]; exact decide_eq_true (pw_b (show s < 2 ^ n by omega) h)) ?_
  refine Classical.byContradiction fun q => ?_
  have : 2 ^ n - 1 ≤ s := sub_le fun k hk => by
    cases z : s.testBit k
    · rw [all_tb] at hk
      have := of_decide_eq_true hk
      exact absurd ⟨k, by omega, z, by rw [all_tb]; exact hk⟩ q
    · rfl
  omega
theorem c231_25 {x1 : Int32} (hB : BkR lv B σ) (hk : BkOk lv B) (hD : OrR B D σ)
    (K : ∀ f l k, Tal 16 (fun s => s < 2 ^ bN B ∧ cvr (bN B) (clE D (bG B)) s) f l k → Q (some (.int (if x1 = 0 then nI f else if x1 = 1 then nI l else nI k))) σ) :
    G Θ (d + 2) 231 25 [some (.ref 124), some (.int x1), some (.int (nI (2 ^ bN B - 1))), some (.int 1), some (.int 0), none, none, none] [] σ Q := by
  obtain ⟨hn, h16⟩ := bk_n hB hk
  have h65 := pw_le h16
  have hp := Nat.two_pow_pos (bN B)
  have pmx : ∀ s, pc 16 s ≤ 16 := fun s => cN_max _ 16
  have hall : cvr (bN B) (clE D (bG B)) (2 ^ bN B - 1) := fun a b ha hb _ => Or.inl (by rw [all_tb]; exact decide_eq_true ha)
  refine loopS (α := Nat × Nat) (I := fun i z => z.1 < 65536 ∧ ((z.1 = 2 ^ bN B - 1 ∧ z.2 = 1 ∧ ∀ s, s < i → ¬ cvr (bN B) (clE D (bG B)) s) ∨ (z.1 < i ∧ Tal 16 (fun s => s < i ∧ cvr (bN B) (clE D (bG B)) s) (pc 16 z.1) z.1 z.2))) (P := fun i z => G Θ (d + 2) 231 25 [some (.ref 124), some (.int x1), some (.int (nI z.1)), some (.int (nI z.2)), some (.int (nI i)), none, none, none] [] σ Q) (2 ^ bN B) ?_ ?_ (2 ^ bN B - 1, 1) ⟨by show 2 ^ bN B - 1 < 65536; omega, Or.inl ⟨rfl, rfl, fun s h => absurd h (Nat.not_lt_zero _)⟩⟩
  · intro ⟨b, m⟩ ⟨hb, hI⟩
    have hb : b < 65536 := hb
    have hT : Tal 16 (fun s => s < 2 ^ bN B ∧ cvr (bN B) (clE D (bG B)) s) (pc 16 b) b m := by
      rcases hI with ⟨_, _, h⟩ | ⟨_, h⟩
      · exact absurd hall (h _ (by omega))
      · exact h
    have kk := K _ _ _ hT
    refine B231_25 ⟨fun _ => ⟨fun h => ⟨fun h2 => ?_, fun h2 => ?_⟩, fun h => ?_⟩, fun h => absurd (by rw [hn, pw_n _ (by omega)]; exact nI_le (Nat.le_refl _) (by omega)) h⟩
    · rw [if_neg h, if_neg h2] at kk; exact kk
    · rw [if_neg h, if_pos h2] at kk; exact kk
    · rw [if_pos h] at kk
      exact ci (fun _ => c230 hb) kk
  · intro i ⟨b, m⟩ hi ⟨hb, hI⟩ ih
    have hb : b < 65536 := hb
    have hi65 : i < 65536 := by omega
    have e193 : ∀ b' m', (b' < 65536 ∧ ((b' = 2 ^ bN B - 1 ∧ m' = 1 ∧ ∀ s, s < i + 1 → ¬ cvr (bN B) (clE D (bG B)) s) ∨ (b' < i + 1 ∧ Tal 16 (fun s => s < i + 1 ∧ cvr (bN B) (clE D (bG B)) s) (pc 16 b') b' m'))) → G Θ (d + 2) 231 193 [some (.ref 124), some (.int x1), some (.int (nI b')), some (.int (nI m')), some (.int (nI i)), none, none, none] [] σ Q := fun b' m' h => by
      refine B231_193 ?_
      rw [nI_1]; exact ih (b', m') h
    -- a set that is no cover, or of more
    have keep : ¬ cvr (bN B) (clE D (bG B)) i → G Θ (d + 2) 231 193 [some (.ref 124), some (.int x1), some (.int (nI b)), some (.int (nI m)), some (.int (nI i)), none, none, none] [] σ Q := fun hc => e193 b m ⟨hb, by
      rcases hI with ⟨h1, h1', h2⟩ | ⟨h1, h2⟩
      · refine Or.inl ⟨h1, h1', fun s hs => ?_⟩
        rcases Nat.lt_or_ge s i with q | q
        · exact h2 s q
        · have : s = i := by omega
          subst this; exact hc
      · refine Or.inr ⟨Nat.lt_succ_of_lt h1, tal_congr (fun s => ?_) h2⟩
        constructor
        · exact fun h => ⟨by omega, h.2⟩
        · rintro ⟨h3, h4⟩
          refine ⟨?_, h4⟩
          rcases Nat.lt_or_ge s i with q | q
          · exact q
          · have : s = i := by omega
            subst this; exact absurd h4 hc⟩
    have keep2 : pc 16 b < pc 16 i → G Θ (d + 2) 231 193 [some (.ref 124), some (.int x1), some (.int (nI b)), some (.int (nI m)), some (.int (nI i)), none, none, none] [] σ Q := fun hlt => by
      rcases Classical.em (cvr (bN B) (clE D (bG B)) i) with hc | hc
      · rcases hI with ⟨h1, h1', h2⟩ | ⟨h1, h2⟩
        · have h1 : b = 2 ^ bN B - 1 := h1
          subst h1
          rcases Nat.lt_or_ge i (2 ^ bN B - 1) with q | q
          · have := pc_lt h16 q; omega
          · have : i = 2 ^ bN B - 1 := by omega
            rw [this] at hlt; exact absurd hlt (Nat.lt_irrefl _)
        · refine e193 b m ⟨hb, Or.inr ⟨Nat.lt_succ_of_lt h1, tal_congr (fun s => ?_) (tal_skip (Y := fun s => s = i ∧ cvr (bN B) (clE D (bG B)) s) h2 (fun s hs => by rw [hs.1]; exact hlt))⟩⟩
          constructor
          · rintro (h | h)
            · exact ⟨by omega, h.2⟩
            · exact ⟨by omega, h.2⟩
          · rintro ⟨h3, h4⟩
            rcases Nat.lt_or_ge s i with q | q
            · exact Or.inl ⟨q, h4⟩
            · exact Or.inr ⟨by omega, h4⟩
      · exact keep hc
    show G Θ (d + 2) 231 25 [some (.ref 124), some (.int x1), some (.int (nI b)), some (.int (nI m)), some (.int (nI i)), none, none, none] [] σ Q
    refine B231_25 ⟨fun h => absurd h (by rw [hn, pw_n _ (by omega)]; exact nI_ge hi (by omega)), fun _ => ?_⟩
    refine ci (fun _ => c230 hi65) ?_
    refine ci (fun _ => c230 hb) ?_
    have p1 := pmx i
    have p2 := pmx b
    refine ⟨fun h => ?_, fun h => keep2 (by rw [nI_leI (by omega) (by omega)] at h; omega)⟩
    rw [nI_leI (by omega) (by omega)] at h
    refine c231_57 hi65 hB hk hD (fun hc => ?_) (fun hc => ?_)
    · -- a cover of no more
      have h0 : Tal 16 (fun _ : Nat => False) 17 0 0 := ⟨fun _ h => h.elim, [], rfl, List.nodup_nil, fun s => ⟨fun h => absurd h List.not_mem_nil, fun h => h.1.elim⟩, fun _ => by decide, fun h => absurd rfl h⟩
      have first : (∀ s, s < i → ¬ cvr (bN B) (clE D (bG B)) s) → Tal 16 (fun s => s < i + 1 ∧ cvr (bN B) (clE D (bG B)) s) (pc 16 i) i 1 := fun hno => by
        have t1 := tal_note (Y := fun s => s = i) h0 rfl (fun s hs => by rw [show s = i from hs]; exact ⟨Nat.le_refl _, fun _ => rfl⟩) (fun h => h) (show pc 16 i ≤ 17 by omega)
        rw [if_pos (show pc 16 i < 17 by omega), if_pos (show pc 16 i < 17 by omega)] at t1
        refine tal_congr (fun s => ?_) t1
        constructor
        · rintro (h | h)
          · exact h.elim
          · have h : s = i := h
            subst h; exact ⟨by omega, hc⟩
        · rintro ⟨h3, h4⟩
          rcases Nat.lt_or_ge s i with q | q
          · exact absurd h4 (hno s q)
          · exact Or.inr (by show s = i; omega)
      have second : b < i → Tal 16 (fun s => s < i ∧ cvr (bN B) (clE D (bG B)) s) (pc 16 b) b m → Tal 16 (fun s => s < i + 1 ∧ cvr (bN B) (clE D (bG B)) s) (pc 16 i) (if pc 16 i < pc 16 b then i else b) (if pc 16 i < pc 16 b then 1 else m + 1) := fun hbi hT => by
        have t1 := tal_note (Y := fun s => s = i) hT rfl (fun s hs => by rw [show s = i from hs]; exact ⟨Nat.le_refl _, fun _ => rfl⟩) (fun h => absurd h.1 (Nat.lt_irrefl _)) h
        rw [if_neg (show ¬ i < b by omega)] at t1
        refine tal_congr (fun s => ?_) t1
        constructor
        · rintro (h | h)
          · exact ⟨by omega, h.2⟩
          · have h : s = i := h
            subst h; exact ⟨by omega, hc⟩
        · rintro ⟨h3, h4⟩
          rcases Nat.lt_or_ge s i with q | q
          · exact Or.inl ⟨q, h4⟩
          · exact Or.inr (by show s = i; omega)
      have go166 : (pc 16 i < pc 16 b ∨ i = b) → G Θ (d + 2) 231 166 [some (.ref 124), some (.int x1), some (.int (nI b)), none, some (.int (nI i)), none, none, none] [] σ Q := fun hh => by
        refine B231_166 ?_
        refine ci (fun _ => c230 hi65) ?_
        refine ci (fun _ => c230 hb) ?_
        rw [nI_leI (by omega) (by omega)]
        refine ⟨fun q => ?_, fun q => ?_⟩
        · have hib : i = b := by rcases hh with hh | hh; omega; exact hh
          subst hib
          rcases hI with ⟨h1, h1', h2⟩ | ⟨h1, h2⟩
          · exact e193 i 1 ⟨hb, Or.inr ⟨Nat.lt_succ_self _, first h2⟩⟩
          · exact absurd h1 (Nat.lt_irrefl _)
        · have hlt : pc 16 i < pc 16 b := by omega
          rcases hI with ⟨h1, h1', h2⟩ | ⟨h1, h2⟩
          · exact e193 i 1 ⟨hi65, Or.inr ⟨Nat.lt_succ_self _, first h2⟩⟩
          · have := second h1 h2
            rw [if_pos hlt, if_pos hlt] at this
            exact e193 i 1 ⟨hi65, Or.inr ⟨Nat.lt_succ_self _, this⟩⟩
      refine B231_140 ⟨fun _ => ?_, fun h => absurd h (by decide)⟩
      refine ci (fun _ => c230 hi65) ?_
      refine ci (fun _ => c230 hb) ?_
      rw [nI_ltI (by omega) (by omega)]
      refine ⟨fun q => go166 (Or.inl q), fun q => ⟨fun q2 => ?_, fun q2 => ?_⟩⟩
      · refine ci (fun _ => c230 hi65) ?_
        refine ci (fun _ => c230 hb) ?_
        rw [nI_leI (by omega) (by omega)]
        refine ⟨fun _ => ?_, fun q3 => absurd q3 (by omega)⟩
        rcases hI with ⟨h1, h1', h2⟩ | ⟨h1, h2⟩
        · exfalso
          have h1 : b = 2 ^ bN B - 1 := h1
          subst h1
          rcases Nat.lt_or_ge i (2 ^ bN B - 1) with z | z
          · have := pc_lt h16 z; omega
          · exact q2 (by rw [show i = 2 ^ bN B - 1 by omega])
        · have := second h1 h2
          rw [if_neg q, if_neg q] at this
          rw [nI_1]
          refine e193 b (m + 1) ⟨hb, Or.inr ⟨Nat.lt_succ_of_lt h1, ?_⟩⟩
          have e : pc 16 i = pc 16 b := by omega
          rw [← e]; exact this
      · rw [nI_eq (by omega) (by omega)] at q2
        exact go166 (Or.inr q2)
    · exact B231_140 ⟨fun h => absurd rfl h, fun _ => keep hc⟩
end ragain
