/-! FRACTIONS: the class's Fraction, the reference's top and low; each holds a number in lowest terms -/
theorem lc_eq {x y : Int64} : lg_cmp x y = 0 ↔ x = y := by
  unfold lg_cmp
  by_cases h : x = y
  · subst h; simp [Int64.lt_irrefl]
  · by_cases h2 : y < x
    · rw [if_pos h2]; simp [h]
    · rw [if_neg h2, if_neg h]; simp [h]
theorem lc_le {x y : Int64} : lg_cmp x y ≤ 0 ↔ x ≤ y := by
  unfold lg_cmp
  rw [j_le]
  by_cases h2 : y < x
  · have h3 := j_lt.mp h2
    rw [if_pos h2]
    exact ⟨fun h => absurd h (by decide), fun h => by omega⟩
  · have h3 : ¬ y.toInt < x.toInt := fun q => h2 (j_lt.mpr q)
    rw [if_neg h2]
    refine ⟨fun _ => by omega, fun _ => ?_⟩
    split <;> decide
theorem lc_pos {x y : Int64} : 0 < lg_cmp x y ↔ y < x := by
  have h := lc_le (x := x) (y := y)
  rw [i_le] at h
  rw [i_lt, j_lt]
  rw [j_le] at h
  omega
theorem lc_ge {x y : Int64} : 0 ≤ lg_cmp x y ↔ y ≤ x := by
  have h1 := lc_pos (x := x) (y := y)
  have h2 := lc_eq (x := x) (y := y)
  rw [i_lt, j_lt] at h1
  rw [i_eq, j_eq] at h2
  rw [i_le, j_le]
  omega
theorem jJ_div {a b : Int} (h : -9223372036854775808 ≤ a) (h' : a < 9223372036854775808) (k : -9223372036854775808 ≤ b) (k' : b < 9223372036854775808) : jJ a / jJ b = jJ (a.tdiv b) :=
  (Int64.ofInt_tdiv (by rw [show Int64.minValue.toInt = -9223372036854775808 from rfl]; exact h) (by rw [show Int64.maxValue.toInt = 9223372036854775807 from rfl]; omega) (by rw [show Int64.minValue.toInt = -9223372036854775808 from rfl]; exact k) (by rw [show Int64.maxValue.toInt = 9223372036854775807 from rfl]; omega)).symm
theorem jJ_divN {a b : Nat} (h : a < 9223372036854775808) (k : b < 9223372036854775808) : jJ a / jJ b = jJ ((a / b : Nat) : Int) := by
  rw [jJ_div (by omega) (by omega) (by omega) (by omega)]; rfl
theorem jJ_remN {a b : Nat} (h : a < 9223372036854775808) (k : b < 9223372036854775808) : jJ a - jJ a / jJ b * jJ b = jJ ((a % b : Nat) : Int) := by
  rw [jJ_divN h k, jJ_mul, jJ_sub]; congr 1
  have := Nat.div_add_mod a b
  rw [Nat.mul_comm] at this
  have e : ((a / b : Nat) : Int) * (b : Int) = ((a / b * b : Nat) : Int) := (Int.natCast_mul _ _).symm
  rw [e]; omega
theorem jJ_0 : (0 : Int64) = jJ 0 := rfl
theorem gcd_step {x y k : Nat} (hy : y < 2 ^ (k + 1)) (h0 : x % y ≠ 0) : y % (x % y) < 2 ^ k := by
  rcases Nat.eq_zero_or_pos y with q | hy0
  · subst q; rw [Nat.zero_mod]; exact Nat.two_pow_pos k
  have h1 := Nat.mod_lt x hy0
  have h2 := Nat.mod_lt y (Nat.pos_of_ne_zero h0)
  rw [Nat.pow_succ] at hy
  rcases Nat.lt_or_ge (x % y) (2 ^ k) with q | q
  · omega
  · have e : y % (x % y) = y - x % y := by
      rw [Nat.mod_eq_sub_mod (Nat.le_of_lt h1), Nat.mod_eq_of_lt (by omega)]
    omega
section frac
variable {Θ : Th} {d : Nat} {σ : Mem} {Q : Po} {o : Nat}
theorem c50 {a b : Nat} (ha : a < 9223372036854775808) (hb : b < 2 ^ 49) (k : Q (some (.long (jJ (Nat.gcd a b : Nat)))) σ) : Cm Θ d 50 [.long (jJ a), .long (jJ b)] σ Q := by
  refine K50 (B50_0 ?_)
  have key : ∀ j x y i, x < 9223372036854775808 → y < 2 ^ j → j ≤ 49 → i + 2 * j < 100 → Nat.gcd x y = Nat.gcd a b → G Θ d 50 9 [none, none, none, none, some (.long (jJ (x : Nat))), none, some (.long (jJ (y : Nat))), none, some (.int (nI i)), none, none] [] σ Q := by
    intro j
    induction j with
    | zero =>
      intro x y i hx hy _ hi hg
      have : y = 0 := by omega
      subst this
      rw [Nat.gcd_zero_right] at hg
      refine B50_9 ⟨fun h => absurd h (nI_ge (b := 100) (by omega) (by decide)), fun _ => ⟨fun _ => ?_, fun h => absurd (lc_eq.mpr rfl) h⟩⟩
      rw [hg]; exact k
    | succ j ih =>
      intro x y i hx hy hj hi hg
      have hy2 : y < 9223372036854775808 := Nat.lt_of_lt_of_le hy (Nat.le_trans (Nat.pow_le_pow_right (by decide) (show j + 1 ≤ 63 by omega)) (by decide))
      refine B50_9 ⟨fun h => absurd h (nI_ge (b := 100) (by omega) (by decide)), fun _ => ⟨fun h => ?_, fun h => ?_⟩⟩
      · rw [lc_eq, jJ_0, jJ_eq (by omega) (by omega) (by omega) (by omega)] at h
        have : y = 0 := by omega
        subst this
        rw [Nat.gcd_zero_right] at hg
        rw [hg]; exact k
      · rw [lc_eq] at h
        refine ⟨h, ?_⟩
        rw [jJ_0, jJ_eq (by omega) (by omega) (by omega) (by omega)] at h
        have hy0 : 0 < y := by omega
        have hr := Nat.mod_lt x hy0
        rw [jJ_remN hx hy2, nI_1]
        have hg1 : Nat.gcd y (x % y) = Nat.gcd a b := by rw [Nat.gcd_comm, ← hg, Nat.gcd_comm x y, Nat.gcd_rec y x]
        refine B50_9 ⟨fun h => absurd h (nI_ge (b := 100) (by omega) (by decide)), fun _ => ⟨fun h => ?_, fun h => ?_⟩⟩
        · rw [lc_eq, jJ_0, jJ_eq (by omega) (by omega) (by omega) (by omega)] at h
          have e : x % y = 0 := by omega
          rw [e, Nat.gcd_zero_right] at hg1
          rw [hg1]; exact k
        · rw [lc_eq] at h
          refine ⟨h, ?_⟩
          rw [jJ_0, jJ_eq (by omega) (by omega) (by omega) (by omega)] at h
          rw [jJ_remN hy2 (by omega), nI_1]
          exact ih _ _ _ (by omega) (gcd_step hy (by omega)) (by omega) (by omega) (by rw [Nat.gcd_comm, ← hg1, Nat.gcd_comm y (x % y), Nat.gcd_rec (x % y) y])
  exact key 49 a b 0 ha hb (Nat.le_refl _) (by omega) rfl
theorem jJ_abs {u : Int} (h : -9000000000000000000 < u) (h' : u < 9000000000000000000) : (if 0 < jJ u then jJ u else -jJ u) = jJ (u.natAbs : Nat) := by
  have hc : (0 : Int64) < jJ u ↔ 0 < u := by rw [jJ_0, jJ_lt (by omega) (by omega) (by omega) (by omega)]
  by_cases h0 : 0 < u
  · rw [if_pos (hc.mpr h0)]; congr 1; omega
  · rw [if_neg (fun q => h0 (hc.mp q)), jJ_neg]; congr 1; omega
theorem c210 {u : Int} {b : Nat} (hu : -9000000000000000000 < u) (hu' : u < 9000000000000000000) (hb : b < 2 ^ 49) (k : Q (some (.long (jJ (Nat.gcd u.natAbs b : Nat)))) σ) : Cm Θ d 210 [.long (jJ u), .long (jJ b)] σ Q := by
  have key : ∀ n x y, y < n → x < 9223372036854775808 → y < 2 ^ 49 → Nat.gcd x y = Nat.gcd u.natAbs b → G Θ d 210 17 [none, none, none, none, some (.long (jJ (x : Nat))), none, some (.long (jJ (y : Nat))), none, none, none] [] σ Q := by
    intro n
    induction n with
    | zero => intro x y hy; exact absurd hy (Nat.not_lt_zero _)
    | succ n ih =>
      intro x y hn hx hy hg
      refine B210_17 ⟨fun h => ?_, fun h => ?_⟩
      · rw [lc_le, jJ_0, jJ_le (by omega) (by omega) (by omega) (by omega)] at h
        have : y = 0 := by omega
        subst this
        rw [Nat.gcd_zero_right] at hg
        rw [hg]; exact k
      · rw [lc_le, jJ_0, jJ_le (by omega) (by omega) (by omega) (by omega)] at h
        have hr := Nat.mod_lt x (show 0 < y by omega)
        refine ⟨fun q => ?_, ?_⟩
        · rw [jJ_0, jJ_eq (by omega) (by omega) (by omega) (by omega)] at q; omega
        · rw [jJ_remN hx (by omega)]
          exact ih _ _ (by omega) (by omega) (by omega) (by rw [Nat.gcd_comm, ← hg, Nat.gcd_comm x y, Nat.gcd_rec y x])
  refine K210 (B210_0 ⟨fun h => ?_, fun h => ?_⟩)
  · rw [lc_ge, jJ_0, jJ_le (by omega) (by omega) (by omega) (by omega)] at h
    have := key (b + 1) u.natAbs b (by omega) (by omega) hb rfl
    rw [show ((u.natAbs : Nat) : Int) = u by omega] at this
    exact this
  · rw [lc_ge, jJ_0, jJ_le (by omega) (by omega) (by omega) (by omega)] at h
    have := key (b + 1) u.natAbs b (by omega) (by omega) hb rfl
    rw [show ((u.natAbs : Nat) : Int) = -u by omega, ← jJ_neg] at this
    exact this
/-- a fraction's cells -/
def frW (σ : Mem) (o i j : Nat) (r : Rat) : Mem := sL (sL σ o i (jJ r.num)) o j (jJ (r.den : Nat))
theorem mk_num {u : Int} {l g : Nat} (hl : 0 < l) (hg : g = Nat.gcd u.natAbs l) : (mkRat u l).num = u.tdiv g ∧ (mkRat u l).den = l / g := by
  have h1 := Rat.num_mkRat u l
  have h2 := Rat.den_mkRat u l
  rw [if_neg (by omega), Nat.gcd_comm, ← hg] at h1 h2
  refine ⟨?_, h2⟩
  rw [h1, Int.tdiv_eq_ediv_of_dvd]
  rw [hg]
  exact Int.natAbs_dvd_natAbs.mp (by simpa using Nat.gcd_dvd_left u.natAbs l)
theorem c47 {u : Int} {l : Nat} (ho : (shq o).1 = 5) (hu : -9000000000000000000 < u) (hu' : u < 9000000000000000000) (h0 : 0 < l) (hl : l < 2 ^ 49) (k : Q none (frW σ o 0 1 (mkRat u l))) : Cm Θ (d + 1) 47 [.ref o, .long (jJ u), .long (jJ l)] σ Q := by
  have hg : Nat.gcd u.natAbs l ≤ l := Nat.gcd_le_right _ h0
  have hg0 : 0 < Nat.gcd u.natAbs l := Nat.gcd_pos_of_pos_right _ h0
  refine K47 (B47_0 ho ?_)
  rw [jJ_abs hu hu']
  refine cl (fun _ => c50 (by omega) hl) ⟨fun h => ?_, fun _ => ⟨fun q => ?_, fun q => ?_, ?_⟩⟩
  · rw [lc_le, jJ_0, jJ_le (by omega) (by omega) (by omega) (by omega)] at h; omega
  · rw [jJ_0, jJ_eq (by omega) (by omega) (by omega) (by omega)] at q; omega
  · rw [jJ_0, jJ_eq (by omega) (by omega) (by omega) (by omega)] at q; omega
  · rw [jJ_div (by omega) (by omega) (by omega) (by omega), jJ_divN (by omega) (by omega)]
    obtain ⟨e1, e2⟩ := mk_num (u := u) h0 rfl
    rw [frW, e1, e2] at k; exact k
theorem c211 {u : Int} {l : Nat} (hu : -9000000000000000000 < u) (hu' : u < 9000000000000000000) (h0 : 0 < l) (hl : l < 2 ^ 49) (k : Q none (frW σ 124 44 45 (mkRat u l))) : Cm Θ (d + 1) 211 [.ref 124, .long (jJ u), .long (jJ l)] σ Q := by
  have hg : Nat.gcd u.natAbs l ≤ l := Nat.gcd_le_right _ h0
  have hg0 : 0 < Nat.gcd u.natAbs l := Nat.gcd_pos_of_pos_right _ h0
  refine K211 (B211_0 ?_)
  refine cl (fun _ => c210 hu hu' hl) ⟨fun q => ?_, fun q => ?_, ?_⟩
  · rw [jJ_0, jJ_eq (by omega) (by omega) (by omega) (by omega)] at q; omega
  · rw [jJ_0, jJ_eq (by omega) (by omega) (by omega) (by omega)] at q; omega
  · rw [jJ_div (by omega) (by omega) (by omega) (by omega), jJ_divN (by omega) (by omega)]
    obtain ⟨e1, e2⟩ := mk_num (u := u) h0 rfl
    rw [frW, e1, e2] at k; exact k
/-- the sum of a number in lowest terms and a fraction, as the programs reckon it -/
theorem add_rat {r : Rat} {u : Int} {l g : Nat} (h0 : 0 < l) (hg : g = Nat.gcd r.den l) : mkRat (r.num * ((l / g : Nat) : Int) + u * ((r.den / g : Nat) : Int)) (r.den / g * l) = r + mkRat u l := by
  have hg0 : 0 < g := by rw [hg]; exact Nat.gcd_pos_of_pos_right _ h0
  have e1 : g * (l / g) = l := Nat.mul_div_cancel' (by rw [hg]; exact Nat.gcd_dvd_right _ _)
  have e2 : g * (r.den / g) = r.den := Nat.mul_div_cancel' (by rw [hg]; exact Nat.gcd_dvd_left _ _)
  have h := Rat.mkRat_mul_left (n := r.num * ((l / g : Nat) : Int) + u * ((r.den / g : Nat) : Int)) (d := r.den / g * l) (a := g) (by omega)
  rw [← h]
  have e3 : (g : Int) * (r.num * ((l / g : Nat) : Int) + u * ((r.den / g : Nat) : Int)) = r.num * (l : Int) + u * (r.den : Int) := by
    have a1 : ((g : Int) * ((l / g : Nat) : Int)) = (l : Int) := by rw [← Int.natCast_mul, e1]
    have a2 : ((g : Int) * ((r.den / g : Nat) : Int)) = (r.den : Int) := by rw [← Int.natCast_mul, e2]
    rw [Int.mul_add, Int.mul_left_comm, a1, Int.mul_left_comm, a2]
  rw [e3, ← Nat.mul_assoc, e2, ← Rat.mkRat_add_mkRat r.num u r.den_nz (by omega), Rat.mkRat_self]
theorem c48 {r : Rat} {u : Int} {l : Nat} (ho : (shq o).1 = 5) (hr : σ.2.1 o 0 = jJ r.num ∧ σ.2.1 o 1 = jJ (r.den : Nat)) (hrd : r.den < 2 ^ 49) (h0 : 0 < l) (hl : Nat.lcm r.den l < 2 ^ 49)
    (hu : -9000000000000000000 < r.num * ((l / Nat.gcd r.den l : Nat) : Int) + u * ((r.den / Nat.gcd r.den l : Nat) : Int)) (hu' : r.num * ((l / Nat.gcd r.den l : Nat) : Int) + u * ((r.den / Nat.gcd r.den l : Nat) : Int) < 9000000000000000000)
    (k : Q none (frW σ o 0 1 (r + mkRat u l))) : Cm Θ (d + 2) 48 [.ref o, .long (jJ u), .long (jJ l)] σ Q := by
  have hd0 : 0 < r.den := r.den_pos
  have hll : l ≤ Nat.lcm r.den l := Nat.le_of_dvd (Nat.lcm_pos hd0 h0) (Nat.dvd_lcm_right _ _)
  have hg : Nat.gcd r.den l ≤ l := Nat.gcd_le_right _ h0
  have hg0 : 0 < Nat.gcd r.den l := Nat.gcd_pos_of_pos_right _ h0
  have hgd : Nat.gcd r.den l ∣ r.den := Nat.gcd_dvd_left _ _
  have el : r.den / Nat.gcd r.den l * l = Nat.lcm r.den l := by
    have e : r.den * l = Nat.gcd r.den l * (r.den / Nat.gcd r.den l * l) := by rw [← Nat.mul_assoc, Nat.mul_div_cancel' hgd]
    show _ = r.den * l / Nat.gcd r.den l
    rw [e, Nat.mul_div_cancel_left _ hg0]
  refine K48 (B48_0 ho ?_)
  rw [hr.2]
  refine cl (fun _ => c50 (by omega) (by omega)) ⟨fun h => ?_, fun _ => ?_⟩
  · rw [lc_le, jJ_0, jJ_le (by omega) (by omega) (by omega) (by omega)] at h; omega
  · have ne : ¬ jJ (Nat.gcd r.den l : Nat) = 0 := fun q => by
      rw [jJ_0, jJ_eq (by omega) (by omega) (by omega) (by omega)] at q; omega
    refine ⟨ne, ne, ne, ?_⟩
    rw [hr.1, hr.2, jJ_divN (by omega) (by omega), jJ_divN (by omega) (by omega), jJ_mul, jJ_mul, jJ_add, jJ_mul]
    have k2 : ((r.den / Nat.gcd r.den l : Nat) : Int) * (l : Int) = ((r.den / Nat.gcd r.den l * l : Nat) : Int) := (Int.natCast_mul _ _).symm
    rw [k2]
    exact c47 ho hu hu' (by rw [el]; exact Nat.lcm_pos hd0 h0) (by rw [el]; exact hl) ⟨rfl, by rw [add_rat h0 rfl]; exact k⟩
theorem c212 {r : Rat} {u : Int} {l : Nat} (hr : σ.2.1 124 44 = jJ r.num ∧ σ.2.1 124 45 = jJ (r.den : Nat)) (hrd : r.den < 2 ^ 49) (h0 : 0 < l) (hl : Nat.lcm r.den l < 2 ^ 49)
    (hu : -9000000000000000000 < r.num * ((l / Nat.gcd r.den l : Nat) : Int) + u * ((r.den / Nat.gcd r.den l : Nat) : Int)) (hu' : r.num * ((l / Nat.gcd r.den l : Nat) : Int) + u * ((r.den / Nat.gcd r.den l : Nat) : Int) < 9000000000000000000)
    (k : Q none (frW σ 124 44 45 (r + mkRat u l))) : Cm Θ (d + 2) 212 [.ref 124, .long (jJ u), .long (jJ l)] σ Q := by
  have hd0 : 0 < r.den := r.den_pos
  have hll : l ≤ Nat.lcm r.den l := Nat.le_of_dvd (Nat.lcm_pos hd0 h0) (Nat.dvd_lcm_right _ _)
  have hg : Nat.gcd r.den l ≤ l := Nat.gcd_le_right _ h0
  have hg0 : 0 < Nat.gcd r.den l := Nat.gcd_pos_of_pos_right _ h0
  have hgd : Nat.gcd r.den l ∣ r.den := Nat.gcd_dvd_left _ _
  have el : r.den / Nat.gcd r.den l * l = Nat.lcm r.den l := by
    have e : r.den * l = Nat.gcd r.den l * (r.den / Nat.gcd r.den l * l) := by rw [← Nat.mul_assoc, Nat.mul_div_cancel' hgd]
    show _ = r.den * l / Nat.gcd r.den l
    rw [e, Nat.mul_div_cancel_left _ hg0]
  refine K212 (B212_0 ?_)
  rw [hr.2]
  have en : ((r.den : Nat) : Int).natAbs = r.den := Int.natAbs_natCast _
  refine cl (x := jJ (Nat.gcd r.den l : Nat)) (fun _ q => c210 (u := (r.den : Int)) (by omega) (by omega) (by omega) (by rw [en]; exact q)) ?_
  have ne : ¬ jJ (Nat.gcd r.den l : Nat) = 0 := fun q => by
    rw [jJ_0, jJ_eq (by omega) (by omega) (by omega) (by omega)] at q; omega
  refine ⟨ne, ne, ne, ?_⟩
  rw [hr.1, hr.2, jJ_divN (by omega) (by omega), jJ_divN (by omega) (by omega), jJ_mul, jJ_mul, jJ_add, jJ_mul]
  have k2 : ((r.den / Nat.gcd r.den l : Nat) : Int) * (l : Int) = ((r.den / Nat.gcd r.den l * l : Nat) : Int) := (Int.natCast_mul _ _).symm
  rw [k2]
  exact c211 hu hu' (by rw [el]; exact Nat.lcm_pos hd0 h0) (by rw [el]; exact hl) ⟨rfl, by rw [add_rat h0 rfl]; exact k⟩
end frac
