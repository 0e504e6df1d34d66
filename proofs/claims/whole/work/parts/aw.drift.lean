/-! THE CALLS: drift. The values of a fit: how far their denominators go -/
theorem eps_ex (f : Nat → Rat) (t : Rat) : ∀ n, ∃ e : Rat, 0 < e ∧ ∀ c, c < n → (t < f c → t + e ≤ f c) ∧ (f c < t → f c + e ≤ t)
  | 0 => ⟨1, by decide, fun c hc => absurd hc (Nat.not_lt_zero c)⟩
  | n + 1 => by
    obtain ⟨e, he, h⟩ := eps_ex f t n
    obtain ⟨e', he', h'⟩ : ∃ e' : Rat, 0 < e' ∧ (t < f n → t + e' ≤ f n) ∧ (f n < t → f n + e' ≤ t) := by
      rcases Decidable.em (t < f n) with q | q
      · exact ⟨f n - t, by grind, fun _ => by grind, fun w => by grind⟩
      · rcases Decidable.em (f n < t) with w | w
        · exact ⟨t - f n, by grind, fun u => by grind, fun _ => by grind⟩
        · exact ⟨1, by decide, fun u => absurd u q, fun u => absurd u w⟩
    rcases Rat.le_total (a := e) (b := e') with q | q
    · refine ⟨e, he, fun c hc => ?_⟩
      by_cases w : c = n
      · subst w; exact ⟨fun u => by have := h'.1 u; grind, fun u => by have := h'.2 u; grind⟩
      · exact h c (by omega)
    · refine ⟨e', he', fun c hc => ?_⟩
      by_cases w : c = n
      · subst w; exact h'
      · obtain ⟨p1, p2⟩ := h c (by omega)
        exact ⟨fun u => by have := p1 u; grind, fun u => by have := p2 u; grind⟩
noncomputable def lvT (T : Nat → Bool) (f : Nat → Rat) (t : Rat) : Nat → Bool := fun c => T c && decide (f c = t)
theorem lvl_0 {ov : Nat → Nat → Bool} {T : Nat → Bool} {w g f : Nat → Rat} (hv : VI 16 ov T w g f) (t : Rat) : sT 16 (lvT T f t) (fun c => w c * (g c - t)) = 0 := by
  obtain ⟨e, he, hE⟩ := eps_ex f t 16
  have key : ∀ d : Rat, (d = e ∨ d = -e) → d * sT 16 (lvT T f t) (fun c => w c * (g c - t)) ≤ 0 := by
    intro d hd
    have hi : isoO 16 ov T (fun c => if f c = t then t + d else f c) := by
      intro a b ha hb hTa hTb ho
      have h0 := hv.1 a b ha hb hTa hTb ho
      have ea := hE a ha
      have eb := hE b hb
      show (if f b = t then t + d else f b) ≤ (if f a = t then t + d else f a)
      by_cases qa : f a = t
      · rw [if_pos qa]
        by_cases qb : f b = t
        · rw [if_pos qb]; exact Rat.le_refl
        · rw [if_neg qb]
          have : f b < t := by rw [qa] at h0; grind
          have := eb.2 this
          rcases hd with q | q <;> (rw [q]; grind)
      · rw [if_neg qa]
        by_cases qb : f b = t
        · rw [if_pos qb]
          have : t < f a := by rw [qb] at h0; grind
          have := ea.1 this
          rcases hd with q | q <;> (rw [q]; grind)
        · rw [if_neg qb]; exact h0
    have h1 := hv.2 _ hi
    have e1 : sT 16 T (fun c => w c * (g c - f c) * ((if f c = t then t + d else f c) - f c)) = d * sT 16 (lvT T f t) (fun c => w c * (g c - t)) := by
      rw [← sT_mul]
      unfold sT
      refine sQ_congr 16 fun c _ => ?_
      unfold lvT
      by_cases q : T c = true
      · rw [if_pos q, q, Bool.true_and]
        by_cases u : f c = t
        · dsimp only
          rw [if_pos u, decide_eq_true u, if_pos rfl, u]; grind
        · dsimp only
          rw [if_neg u, decide_eq_false u, if_neg (by decide)]; grind
      · rw [if_neg q, Bool.eq_false_iff.mpr q, Bool.false_and, if_neg (by decide)]
    rw [e1] at h1
    exact h1
  have k1 := key e (Or.inl rfl)
  have k2 := key (-e) (Or.inr rfl)
  generalize sT 16 (lvT T f t) (fun c => w c * (g c - t)) = x at k1 k2
  have a1 : e * x ≤ 0 := k1
  have a2 : 0 ≤ e * x := by grind
  have a3 : e * x = 0 := Rat.le_antisymm a1 a2
  rcases Rat.mul_eq_zero.mp a3 with q | q
  · grind
  · exact q
theorem lev_den {ov : Nat → Nat → Bool} {T : Nat → Bool} {w g : Nat → Nat} {f : Nat → Rat} {c : Nat} (hv : VI 16 ov T (qF w) (qF g) f) (hc : 1 ≤ wT w (lvT T f (f c))) : (f c).den ∣ wT w (lvT T f (f c)) := by
  have h0 := lvl_0 hv (f c)
  rw [sT_w] at h0
  have h1 : f c * ((wT w (lvT T f (f c)) : Nat) : Rat) = ((gT w g (lvT T f (f c)) : Nat) : Rat) := by grind
  have hW : ((wT w (lvT T f (f c)) : Nat) : Rat) ≠ 0 := fun q => by
    have : 0 < ((wT w (lvT T f (f c)) : Nat) : Rat) := Rat.natCast_pos.mpr (by omega)
    rw [q] at this; exact absurd this Rat.lt_irrefl
  have h2 : f c = mkRat ((gT w g (lvT T f (f c)) : Nat) : Int) (wT w (lvT T f (f c))) := by
    rw [Rat.mkRat_eq_div]
    have := Rat.mul_div_cancel (a := f c) hW
    rw [h1] at this
    exact this.symm
  have h3 := (mk_num (u := ((gT w g (lvT T f (f c)) : Nat) : Int)) (l := wT w (lvT T f (f c))) (by omega) rfl).2
  rw [← h2] at h3
  rw [h3]
  exact Nat.div_dvd_of_dvd (Nat.gcd_dvd_right _ _)
noncomputable def seenT (T : Nat → Bool) (f : Nat → Rat) (n : Nat) : Nat → Bool := fun c => T c && exB n (fun k => T k && decide (f k = f c))
theorem wT_mono {w : Nat → Nat} {A B : Nat → Bool} (h : ∀ c, c < 16 → A c = true → B c = true) : wT w A ≤ wT w B := by
  refine sN_le 16 fun c hc => ?_
  by_cases q : A c = true
  · rw [if_pos q, if_pos (h c hc q)]; exact Nat.le_refl _
  · rw [if_neg q]; exact Nat.zero_le _
theorem den_list {ov : Nat → Nat → Bool} {T : Nat → Bool} {w g : Nat → Nat} {f : Nat → Rat} (hv : VI 16 ov T (qF w) (qF g) f) (hw : ∀ c, T c = true → 1 ≤ w c) (hT : wT w T ≤ 64) : ∀ n, n ≤ 16 → ∃ L : List Nat, (∀ a, a ∈ L → 1 ≤ a ∧ a ≤ 64) ∧ sumL L = wT w (seenT T f n) ∧ ∀ c, c < n → T c = true → (f c).den ∣ lcmL L
  | 0, _ => ⟨[], fun a ha => (by cases ha), by
    show 0 = wT w (seenT T f 0)
    have : ∀ c, seenT T f 0 c = false := fun c => by unfold seenT; show (T c && false) = false; rw [Bool.and_false]
    unfold wT
    rw [sN_congr (g := fun _ => 0) 16 fun c _ => by rw [this c]; rfl]
    rfl, fun c hc => absurd hc (Nat.not_lt_zero c)⟩
  | n + 1, hn => by
    obtain ⟨L, h1, h2, h3⟩ := den_list hv hw hT n (by omega)
    have hs : ∀ c, seenT T f (n + 1) c = (seenT T f n c || (T c && (T n && decide (f n = f c)))) := fun c => by
      unfold seenT
      show (T c && (exB n _ || (T n && decide (f n = f c)))) = _
      cases T c <;> simp
    by_cases q : seenT T f n n = true ∨ T n = false
    · refine ⟨L, h1, ?_, fun c hc hTc => ?_⟩
      · rw [h2]
        refine sN_congr 16 fun c _ => ?_
        have : seenT T f (n + 1) c = seenT T f n c := by
          rw [hs c]
          rcases q with q | q
          · by_cases u : T c = true ∧ T n = true ∧ f n = f c
            · have : seenT T f n c = true := by
                unfold seenT at q ⊢
                rw [Bool.and_eq_true] at q ⊢
                refine ⟨u.1, ?_⟩
                have q2 := q.2
                rw [u.2.2] at q2; exact q2
              rw [this, Bool.true_or]
            · have : (T c && (T n && decide (f n = f c))) = false := by
                cases hh : (T c && (T n && decide (f n = f c)))
                · rfl
                · rw [Bool.and_eq_true, Bool.and_eq_true, decide_eq_true_eq] at hh
                  exact absurd hh u
              rw [this, Bool.or_false]
          · rw [q]; simp
        rw [this]
      · by_cases w' : c = n
        · subst w'
          rcases q with q | q
          · unfold seenT at q
            rw [Bool.and_eq_true] at q
            obtain ⟨k, hk, hk2⟩ := (exB_iff c).mp q.2
            rw [Bool.and_eq_true, decide_eq_true_eq] at hk2
            rw [← hk2.2]; exact h3 k hk hk2.1
          · rw [q] at hTc; cases hTc
        · exact h3 c (by omega) hTc
    · have hTn : T n = true := by
        cases h : T n
        · exact absurd (Or.inr h) q
        · rfl
      have hns : seenT T f n n = false := by
        cases h : seenT T f n n
        · rfl
        · exact absurd (Or.inl h) q
      have ge1 : 1 ≤ wT w (lvT T f (f n)) := by
        have hn' : lvT T f (f n) n = true := by unfold lvT; rw [hTn, decide_eq_true rfl]; rfl
        have g1 : (if lvT T f (f n) n = true then w n else 0) ≤ wT w (lvT T f (f n)) := by
          unfold wT
          have : ∀ m, n < m → (if lvT T f (f n) n = true then w n else 0) ≤ sN m (fun c => if lvT T f (f n) c = true then w c else 0) := by
            intro m
            induction m with
            | zero => intro h; omega
            | succ m ih =>
              intro h
              show _ ≤ sN m _ + (if lvT T f (f n) m = true then w m else 0)
              by_cases e : n = m
              · subst e; omega
              · have := ih (by omega); omega
          exact this 16 (by omega)
        rw [if_pos hn'] at g1
        have := hw n hTn
        omega
      have le64 : wT w (lvT T f (f n)) ≤ 64 := Nat.le_trans (wT_mono fun c _ hc => by
        unfold lvT at hc; rw [Bool.and_eq_true] at hc; exact hc.1) hT
      refine ⟨wT w (lvT T f (f n)) :: L, fun a ha => ?_, ?_, fun c hc hTc => ?_⟩
      · rcases List.mem_cons.mp ha with e | e
        · rw [e]; exact ⟨ge1, le64⟩
        · exact h1 a e
      · show wT w (lvT T f (f n)) + sumL L = wT w (seenT T f (n + 1))
        rw [h2]
        unfold wT
        rw [← sN_add]
        refine sN_congr 16 fun c _ => ?_
        rw [hs c]
        by_cases u : lvT T f (f n) c = true
        · have u' := u
          unfold lvT at u'
          rw [Bool.and_eq_true, decide_eq_true_eq] at u'
          have hsc : seenT T f n c = false := by
            cases h : seenT T f n c
            · rfl
            · unfold seenT at h hns
              rw [Bool.and_eq_true] at h
              have h2' := h.2
              rw [u'.2] at h2'
              rw [hTn, Bool.true_and] at hns
              rw [hns] at h2'; cases h2'
          rw [if_pos u, hsc, u'.1, hTn, decide_eq_true u'.2.symm]; rfl
        · have u2 : (T c && (T n && decide (f n = f c))) = false := by
            cases hh : (T c && (T n && decide (f n = f c)))
            · rfl
            · rw [Bool.and_eq_true, Bool.and_eq_true, decide_eq_true_eq] at hh
              exact absurd (by unfold lvT; rw [hh.1, decide_eq_true hh.2.2.symm]; rfl) u
          rw [if_neg u, u2, Bool.or_false, Nat.zero_add]
      · by_cases w' : c = n
        · subst w'
          exact Nat.dvd_trans (lev_den hv ge1) (Nat.dvd_lcm_left _ _)
        · exact Nat.dvd_trans (h3 c (by omega) hTc) (Nat.dvd_lcm_right _ _)
theorem den_all {B : Bk} {lv : Nat} (hk : BkOk lv B) (hex : ∃ f, VI 16 (dO B) (Al B) (qF (bW B)) (qF (bG B)) f) : ∃ M : Nat, 0 < M ∧ M ≤ 2300000 ∧ ∀ c, c < bN B → (qVi B c).den ∣ M := by
  have h16 : bN B ≤ 16 := by have := hk.2.1; omega
  have hv : VI 16 (dO B) (Al B) (qF (bW B)) (qF (bG B)) (qVi B) := Classical.epsilon_spec hex
  have h64 : wT (bW B) (Al B) ≤ 64 := hwB hk fun c hc => al_lt hc
  obtain ⟨L, h1, h2, h3⟩ := den_list hv (fun c hc => (wP hk hc).1) h64 16 (Nat.le_refl _)
  have hS : sumL L ≤ 64 := by
    rw [h2]
    exact Nat.le_trans (wT_mono fun c _ hc => by unfold seenT at hc; rw [Bool.and_eq_true] at hc; exact hc.1) h64
  exact ⟨lcmL L, lcm_pos L fun a ha => (h1 a ha).1, lcm_64 h1 hS, fun c hc => h3 c (by omega) (decide_eq_true hc)⟩
