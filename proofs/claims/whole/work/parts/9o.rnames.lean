/-! CONTRACTS: the reference's steps on its text -/
/-- what stays while the reference reads tokens and notes a fault -/
def FrT (σ σ' : Mem) : Prop := Fr [124] σ σ' ∧ (∀ y, 9 ≤ y → σ'.1 124 y = σ.1 124 y) ∧ σ'.1 124 1 = σ.1 124 1 ∧ σ'.1 124 0 = σ.1 124 0 ∧ (∀ y, y ≠ 9 → σ'.2.1 124 y = σ.2.1 124 y) ∧ σ'.2.2 124 = σ.2.2 124
theorem frT_rfl {σ : Mem} : FrT σ σ := ⟨Fr.rfl, fun _ _ => rfl, rfl, rfl, fun _ _ => rfl, rfl⟩
theorem frT_tr {σ σ' σ'' : Mem} (h : FrT σ σ') (h' : FrT σ' σ'') : FrT σ σ'' :=
  ⟨h.1.tr h'.1, fun y a => (h'.2.1 y a).trans (h.2.1 y a), h'.2.2.1.trans h.2.2.1, h'.2.2.2.1.trans h.2.2.2.1, fun y a => (h'.2.2.2.2.1 y a).trans (h.2.2.2.2.1 y a), h'.2.2.2.2.2.trans h.2.2.2.2.2⟩
theorem frT_K {σ σ' : Mem} (h : FrK σ σ') : FrT σ σ' :=
  ⟨h.1, fun y a => h.2.1 y (by omega) (by omega) (by omega) (by omega), h.2.1 1 (by decide) (by decide) (by decide) (by decide), h.2.1 0 (by decide) (by decide) (by decide) (by decide), h.2.2.1, h.2.2.2⟩
theorem frT_I {σ σ' : Mem} {y : Nat} {v : Int32} (h : FrT σ σ') (hy : 2 ≤ y ∧ y ≤ 8) : FrT σ (sI σ' 124 y v) :=
  ⟨h.1.I (by simp), fun z a => by rw [sI_of _ _ (by omega)]; exact h.2.1 z a, by rw [sI_of _ _ (by omega)]; exact h.2.2.1, by rw [sI_of _ _ (by omega)]; exact h.2.2.2.1, h.2.2.2.2.1, h.2.2.2.2.2⟩
/-- token j stands here in the reference, no fault yet -/
def TkR (b : Nat → Nat) (n : Nat) (law : Bool) (j : Nat) (σ : Mem) : Prop := TpR b n law σ ∧ (σ.1 124 2 = 0 ∧ σ.1 124 3 = -1) ∧ StR (tkn b n law (pos b n law j)) σ
def FaR (e : Fa) (σ : Mem) : Prop := (σ.1 124 2 = nI e.1 ∧ σ.1 124 3 = nI e.2) ∧ 0 < e.1 ∧ e.1 < 10
theorem isNm_no {t : Tk} {k : Nat} (hk : k < 16) (h : t.2.2 = nmL.getD k 0) : isNm t = false := by
  have : allB 16 (fun k => decide (t.2.2 ≠ nmL.getD k 0)) = false := Bool.eq_false_iff.mpr fun q => by
    have q := (allB_iff 16).mp q k hk
    exact (of_decide_eq_true q) h
  unfold isNm
  rw [this, Bool.and_false]
theorem isNm_yes {t : Tk} (h1 : t.1 = 1) (h : ∀ k, k < 16 → t.2.2 ≠ nmL.getD k 0) : isNm t = true := by
  unfold isNm
  rw [decide_eq_true h1, (allB_iff 16).mpr fun k hk => decide_eq_true (h k hk)]; rfl
section rnm
variable {Θ : Th} {d : Nat} {σ : Mem} {Q : Po} {b : Nat → Nat} {n : Nat} {law : Bool}
theorem srt_lt (hn : n ≤ 1300) (hb : ∀ i, b i < 256) (j : Nat) : srt (tok b n law j) < 256 := by
  have h4 := (tok_b (law := law) (b := b) hn j).1
  have h3 := (tok_v (law := law) hn hb j).2.2.2
  unfold srt
  by_cases q : (tok b n law j).1 = 4
  · rw [if_pos q]; omega
  · rw [if_neg q]
    by_cases q' : (tok b n law j).1 = 3
    · rw [if_pos q']; exact h3 q'
    · rw [if_neg q']; omega
/-- a sign is one of those that stand -/
theorem tok_sg (hn : n ≤ 1300) (j : Nat) (h : (tok b n law j).1 = 3) : 40 ≤ (tok b n law j).2.2 := by
  obtain ⟨i, hi, hil⟩ : ∃ i, pos b n law j = i ∧ i ≤ n := ⟨_, rfl, pos_le hn j⟩
  unfold tok at h ⊢
  rw [hi] at h ⊢
  obtain ⟨p, h1, h2, h3, h4⟩ := ext_ex (P := inB b n) (n := n) (fun k => inB_lt) n i (by omega) (by omega)
  rw [tkn_at h1 (by omega) h3 h4] at h ⊢
  by_cases q : n ≤ p
  · rw [if_pos q] at h; cases h
  · rw [if_neg q] at h ⊢
    unfold tkA at h ⊢
    by_cases q1 : isL (b p) = true
    · rw [if_pos q1] at h
      have h : (if ext (inL b n) 1300 p - p ≤ 8 then 1 else 4) = 3 := h
      split at h <;> omega
    · rw [if_neg q1] at h ⊢
      by_cases q2 : isD (b p) = true
      · rw [if_pos q2] at h
        have h : (if ext (inD b n) 1300 p - p ≤ 4 ∧ inL b n (ext (inD b n) 1300 p) = false then 2 else 4) = 3 := h
        split at h <;> omega
      · rw [if_neg q2] at h ⊢
        have h : (if b p = 59 ∨ (law = true ∧ isG (b p) = true) then 3 else 4) = 3 := h
        show 40 ≤ b p
        split at h
        · rename_i z
          rcases z with z | ⟨-, z⟩
          · omega
          · unfold isG at z; simp at z; omega
        · omega
theorem srt_4 (hn : n ≤ 1300) (j : Nat) : srt (tok b n law j) = 3 ↔ (tok b n law j).1 = 4 := srt_3 (tok_sg hn j)
theorem srt_k (hn : n ≤ 1300) (j : Nat) {k : Nat} (hk : k ≤ 2) : srt (tok b n law j) = k ↔ (tok b n law j).1 = k := by
  have := tok_sg (law := law) (b := b) hn j
  unfold srt
  by_cases q : (tok b n law j).1 = 4
  · rw [if_pos q]; omega
  · rw [if_neg q]
    by_cases q' : (tok b n law j).1 = 3
    · rw [if_pos q']; have := this q'; omega
    · rw [if_neg q']
theorem srt_c (hn : n ≤ 1300) (j : Nat) {c : Nat} (hc : 40 ≤ c) : srt (tok b n law j) = c ↔ ((tok b n law j).1 = 3 ∧ (tok b n law j).2.2 = c) := by
  have h4 := (tok_b (law := law) (b := b) hn j).1
  unfold srt
  by_cases q : (tok b n law j).1 = 4
  · rw [if_pos q]; omega
  · rw [if_neg q]
    by_cases q' : (tok b n law j).1 = 3
    · rw [if_pos q']; exact ⟨fun h => ⟨q', h⟩, fun h => h.2⟩
    · rw [if_neg q']; omega
theorem TkR_st {j : Nat} (h : TkR b n law j σ) : σ.1 124 6 = nI (srt (tok b n law j)) ∧ σ.1 124 7 = nI (tok b n law j).2.1 ∧ ((tok b n law j).1 = 1 → σ.2.1 124 9 = jJ (((tok b n law j).2.2 : Nat) : Int)) ∧ ((tok b n law j).1 = 2 → σ.1 124 8 = nI (tok b n law j).2.2) ∧ ((tok b n law j).1 ≠ 4 → σ.1 124 4 = nI (pos b n law (j + 1))) := h.2.2
theorem flt_b (f : Nat) (t : Tk) (h0 : 0 < f) (h : f < 10) : 0 < (flt f t).1 ∧ (flt f t).1 < 10 := by
  unfold flt; dsimp only; split <;> omega
theorem c175n {j : Nat} (hn : n ≤ 1300) (hb : ∀ i, b i < 256) (h : TkR b n law j σ) (h4 : (tok b n law j).1 ≠ 4) (K : ∀ σ', FrT σ σ' → TkR b n law (j + 1) σ' → Q none σ') : Cm Θ (d + 1) 175 [.ref 124] σ Q := by
  obtain ⟨s1, s2, s3, s4, s5⟩ := TkR_st h
  refine c175 hn hb h.1 (pos_le hn (j + 1)) (s5 h4) fun σ' f st => K σ' (frT_K f) ⟨TpR_fr h.1 f, ⟨?_, ?_⟩, st⟩
  · rw [f.2.1 2 (by decide) (by decide) (by decide) (by decide)]; exact h.2.1.1
  · rw [f.2.1 3 (by decide) (by decide) (by decide) (by decide)]; exact h.2.1.2
theorem FaR_n {e : Fa} (h : FaR e σ) : ¬ σ.1 124 2 ≤ 0 ∧ ¬ σ.1 124 2 = 0 := by
  obtain ⟨⟨h1, -⟩, h2, h3⟩ := h
  rw [h1]
  exact ⟨nI_ge (b := e.1) (a := 0) h2 (by omega), fun z => by have := (nI_eq (b := 0) (by omega) (by omega)).mp z; omega⟩
theorem TkR_0 {j : Nat} (h : TkR b n law j σ) : σ.1 124 2 ≤ 0 ∧ σ.1 124 2 = 0 := by rw [h.2.1.1]; exact ⟨by decide, rfl⟩
theorem c176f {e : Fa} {x : Int32} (h : FaR e σ) (K : Q none σ) : Cm Θ d 176 [.ref 124, .int x] σ Q :=
  K176 (B176_0 ⟨fun q => absurd q (FaR_n h).1, fun _ => K⟩)
theorem c176 {j f : Nat} (hn : n ≤ 1300) (hb : ∀ i, b i < 256) (h : TkR b n law j σ) (h0 : 0 < f) (h10 : f < 10) (K : ∀ σ', FrT σ σ' → FaR (flt f (tok b n law j)) σ' → Q none σ') : Cm Θ d 176 [.ref 124, .int (nI f)] σ Q := by
  obtain ⟨s1, s2, -⟩ := TkR_st h
  have l : nI (srt (tok b n law j)) = 3 ↔ srt (tok b n law j) = 3 := nI_eq (b := 3) (by have := srt_lt (law := law) hn hb j; omega) (by omega)
  refine K176 (B176_0 ⟨fun _ => ?_, fun q => absurd (TkR_0 h).1 q⟩)
  rw [s1, l, srt_4 hn]
  refine ⟨fun q => K _ (frT_I (frT_I frT_rfl (by omega)) (by omega)) ⟨⟨?_, ?_⟩, flt_b f _ h0 h10⟩, fun q => K _ (frT_I (frT_I frT_rfl (by omega)) (by omega)) ⟨⟨?_, ?_⟩, flt_b f _ h0 h10⟩⟩
  · rw [sI_of _ _ (by omega), sI_at]; unfold flt; rw [if_neg q]
  · rw [sI_at, sI_of _ _ (by omega), s2]; rfl
  · rw [sI_of _ _ (by omega), sI_at]; unfold flt; rw [if_pos q]; rfl
  · rw [sI_at, sI_of _ _ (by omega), s2]; rfl
theorem c177 {j w : Nat} (hn : n ≤ 1300) (hb : ∀ i, b i < 256) (h : TkR b n law j σ) (hw : w < 2 ^ 64) (k : Q (some (.int (if (tok b n law j).1 = 1 ∧ (tok b n law j).2.2 = w then 1 else 0))) σ) : Cm Θ d 177 [.ref 124, .long (jJ (w : Int))] σ Q := by
  obtain ⟨s1, -, s3, -⟩ := TkR_st h
  have bv := (tok_v (law := law) hn hb j).2.1
  have l : nI (srt (tok b n law j)) = 1 ↔ srt (tok b n law j) = 1 := nI_eq (b := 1) (by have := srt_lt (law := law) hn hb j; omega) (by omega)
  refine K177 (B177_0 ?_)
  rw [s1, l, srt_k hn j (by omega)]
  refine ⟨fun h => ?_, fun h => ?_⟩
  · rw [if_neg (by omega)] at k; exact k
  · rw [s3 h, lc_eq, jJ_inj (bv (by omega)) hw]
    refine ⟨fun h' => ?_, fun h' => ?_⟩
    · rw [if_neg (by omega)] at k; exact k
    · rw [if_pos ⟨h, h'⟩] at k; exact k
end rnm
