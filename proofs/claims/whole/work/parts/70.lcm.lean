/-! HOW LARGE a common lower part can be: numbers from 1 to 64, together at most 64 (or 128) -/
def prL : List Nat := [2, 3, 5, 7, 11, 13, 17, 19, 23, 29, 31, 37, 41, 43, 47, 53, 59, 61]
def prC2 : List Nat := [2103, 2002, 2169, 2174, 1752, 1482, 1000, 1000, 1000, 1000, 1000, 1000, 1000, 1000, 1000, 1000, 1000, 1000]
def pr (j : Nat) : Nat := prL.getD j 2
def prc (j : Nat) : Nat := prC2.getD j 1000
def vpw (p a : Nat) : Nat := if a % p ≠ 0 then 0 else if a % p ^ 2 ≠ 0 then 1 else if a % p ^ 3 ≠ 0 then 2 else if a % p ^ 4 ≠ 0 then 3 else if a % p ^ 5 ≠ 0 then 4 else if a % p ^ 6 ≠ 0 then 5 else 6
def pwS (p e : Nat) : Nat := if e = 0 then 0 else p ^ e
def pN : Nat → (Nat → Nat) → Nat
  | 0, _ => 1
  | n + 1, f => pN n f * f n
set_option maxRecDepth 100000 in
theorem lcm_tab : allB 64 (fun b => Nat.beq (pN 18 (fun j => pr j ^ vpw (pr j) (b + 1))) (b + 1) && Nat.ble (sN 18 (fun j => pwS (pr j) (vpw (pr j) (b + 1)))) (b + 1) && allB 18 (fun j => Nat.ble (pr j ^ vpw (pr j) (b + 1)) 64 && Nat.ble (vpw (pr j) (b + 1)) 6)) = true := by decide +kernel
set_option maxRecDepth 100000 in
theorem lcm_tab2 : allB 18 (fun j => allB 7 (fun e => !Nat.ble (pr j ^ e) 64 || Nat.ble (pr j ^ e * 1000 * 11 ^ pwS (pr j) e) (prc j * 13 ^ pwS (pr j) e))) = true := by decide +kernel
theorem lcm_a {a : Nat} (h1 : 1 ≤ a) (h2 : a ≤ 64) : pN 18 (fun j => pr j ^ vpw (pr j) a) = a ∧ sN 18 (fun j => pwS (pr j) (vpw (pr j) a)) ≤ a ∧ ∀ j, j < 18 → pr j ^ vpw (pr j) a ≤ 64 ∧ vpw (pr j) a ≤ 6 := by
  have h := (allB_iff 64).mp lcm_tab (a - 1) (by omega)
  rw [show a - 1 + 1 = a from by omega] at h
  rw [Bool.and_eq_true, Bool.and_eq_true] at h
  refine ⟨Nat.eq_of_beq_eq_true h.1.1, Nat.le_of_ble_eq_true h.1.2, fun j hj => ?_⟩
  have h3 := (allB_iff 18).mp h.2 j hj
  rw [Bool.and_eq_true] at h3
  exact ⟨Nat.le_of_ble_eq_true h3.1, Nat.le_of_ble_eq_true h3.2⟩
theorem lcm_b {j e : Nat} (hj : j < 18) (he : e ≤ 6) (h : pr j ^ e ≤ 64) : pr j ^ e * 1000 * 11 ^ pwS (pr j) e ≤ prc j * 13 ^ pwS (pr j) e := by
  have h1 := (allB_iff 7).mp ((allB_iff 18).mp lcm_tab2 j hj) e (by omega)
  rw [Bool.or_eq_true] at h1
  rcases h1 with h1 | h1
  · have : Nat.ble (pr j ^ e) 64 = true := Nat.ble_eq_true_of_le h
    rw [this] at h1; cases h1
  · exact Nat.le_of_ble_eq_true h1
def lcmL : List Nat → Nat
  | [] => 1
  | a :: l => Nat.lcm a (lcmL l)
def sumL : List Nat → Nat
  | [] => 0
  | a :: l => a + sumL l
def exL (j : Nat) : List Nat → Nat
  | [] => 0
  | a :: l => max (vpw (pr j) a) (exL j l)
theorem pN_dvd {f g : Nat → Nat} : ∀ n, (∀ j, j < n → f j ∣ g j) → pN n f ∣ pN n g
  | 0, _ => Nat.dvd_refl 1
  | n + 1, h => Nat.mul_dvd_mul (pN_dvd n fun j hj => h j (by omega)) (h n (by omega))
theorem pN_le {f g : Nat → Nat} : ∀ n, (∀ j, j < n → f j ≤ g j) → pN n f ≤ pN n g
  | 0, _ => Nat.le_refl 1
  | n + 1, h => Nat.mul_le_mul (pN_le n fun j hj => h j (by omega)) (h n (by omega))
theorem lcm_dvd : ∀ l : List Nat, (∀ a, a ∈ l → 1 ≤ a ∧ a ≤ 64) → lcmL l ∣ pN 18 (fun j => pr j ^ exL j l)
  | [], _ => Nat.one_dvd _
  | a :: l, h => by
    have ha := h a List.mem_cons_self
    refine Nat.lcm_dvd ?_ ?_
    · have e := (lcm_a ha.1 ha.2).1
      have h1 : pN 18 (fun j => pr j ^ vpw (pr j) a) ∣ pN 18 (fun j => pr j ^ exL j (a :: l)) := pN_dvd 18 fun j _ => Nat.pow_dvd_pow _ (Nat.le_max_left _ _)
      rw [e] at h1; exact h1
    · exact Nat.dvd_trans (lcm_dvd l fun b hb => h b (List.mem_cons_of_mem _ hb)) (pN_dvd 18 fun j _ => Nat.pow_dvd_pow _ (Nat.le_max_right _ _))
theorem ex_le : ∀ l : List Nat, (∀ a, a ∈ l → 1 ≤ a ∧ a ≤ 64) → ∀ j, j < 18 → exL j l ≤ 6 ∧ pr j ^ exL j l ≤ 64
  | [], _, j, _ => ⟨Nat.zero_le _, by show pr j ^ 0 ≤ 64; rw [Nat.pow_zero]; decide⟩
  | a :: l, h, j, hj => by
    have ha := h a List.mem_cons_self
    have h1 := (lcm_a ha.1 ha.2).2.2 j hj
    have h2 := ex_le l (fun b hb => h b (List.mem_cons_of_mem _ hb)) j hj
    show max (vpw (pr j) a) (exL j l) ≤ 6 ∧ pr j ^ max (vpw (pr j) a) (exL j l) ≤ 64
    rcases Nat.le_total (vpw (pr j) a) (exL j l) with q | q
    · rw [Nat.max_eq_right q]; exact h2
    · rw [Nat.max_eq_left q]; exact ⟨h1.2, h1.1⟩
theorem pwS_max (p a b : Nat) : pwS p (max a b) ≤ pwS p a + pwS p b := by
  rcases Nat.le_total a b with q | q
  · rw [Nat.max_eq_right q]; exact Nat.le_add_left _ _
  · rw [Nat.max_eq_left q]; exact Nat.le_add_right _ _
theorem ex_sum : ∀ l : List Nat, (∀ a, a ∈ l → 1 ≤ a ∧ a ≤ 64) → sN 18 (fun j => pwS (pr j) (exL j l)) ≤ sumL l
  | [], _ => Nat.le_refl 0
  | a :: l, h => by
    have ha := h a List.mem_cons_self
    have h1 := (lcm_a ha.1 ha.2).2.1
    have h2 := ex_sum l (fun b hb => h b (List.mem_cons_of_mem _ hb))
    have h3 : sN 18 (fun j => pwS (pr j) (exL j (a :: l))) ≤ sN 18 (fun j => pwS (pr j) (vpw (pr j) a) + pwS (pr j) (exL j l)) := sN_le 18 fun j _ => pwS_max _ _ _
    rw [sN_add] at h3
    show _ ≤ a + sumL l
    omega
theorem pN_exp (P : Nat → Nat) (c S : Nat → Nat) : ∀ n, (∀ j, j < n → P j * 1000 * 11 ^ S j ≤ c j * 13 ^ S j) → pN n P * 1000 ^ n * 11 ^ sN n S ≤ pN n c * 13 ^ sN n S
  | 0, _ => Nat.le_refl 1
  | n + 1, h => by
    have h1 := pN_exp P c S n (fun j hj => h j (by omega))
    have h2 := h n (by omega)
    have h3 := Nat.mul_le_mul h1 h2
    show pN n P * P n * 1000 ^ (n + 1) * 11 ^ (sN n S + S n) ≤ pN n c * c n * 13 ^ (sN n S + S n)
    rw [Nat.pow_succ, Nat.pow_add, Nat.pow_add]
    have e1 : pN n P * 1000 ^ n * 11 ^ sN n S * (P n * 1000 * 11 ^ S n) = pN n P * P n * (1000 ^ n * 1000) * (11 ^ sN n S * 11 ^ S n) := by
      simp only [Nat.mul_assoc, Nat.mul_comm, Nat.mul_left_comm]
    have e2 : pN n c * 13 ^ sN n S * (c n * 13 ^ S n) = pN n c * c n * (13 ^ sN n S * 13 ^ S n) := by
      simp only [Nat.mul_assoc, Nat.mul_comm, Nat.mul_left_comm]
    rw [e1, e2] at h3; exact h3
theorem lcm_le {l : List Nat} (h : ∀ a, a ∈ l → 1 ≤ a ∧ a ≤ 64) {S : Nat} (hS : sumL l ≤ S) : lcmL l * 1000 ^ 18 * 11 ^ S ≤ pN 18 prc * 13 ^ S := by
  have h1 := pN_exp (fun j => pr j ^ exL j l) prc (fun j => pwS (pr j) (exL j l)) 18 (fun j hj => lcm_b hj (ex_le l h j hj).1 (ex_le l h j hj).2)
  have h2 := ex_sum l h
  generalize sN 18 (fun j => pwS (pr j) (exL j l)) = T at h1 h2
  have hpos : 0 < pN 18 (fun j => pr j ^ exL j l) := by
    have h0 : pN 18 (fun _ => 1) ≤ pN 18 (fun j => pr j ^ exL j l) := pN_le 18 fun j hj => Nat.pos_of_ne_zero fun q => by
      have : ∀ j, j < 18 → pr j ≠ 0 := by decide
      exact this j hj (Nat.pow_eq_zero.mp q).1
    exact Nat.lt_of_lt_of_le (by decide) h0
  have h3 : lcmL l ≤ pN 18 (fun j => pr j ^ exL j l) := Nat.le_of_dvd hpos (lcm_dvd l h)
  have e : S = T + (S - T) := by omega
  have h4 : 11 ^ (S - T) ≤ 13 ^ (S - T) := Nat.pow_le_pow_left (by decide) _
  calc lcmL l * 1000 ^ 18 * 11 ^ S ≤ pN 18 (fun j => pr j ^ exL j l) * 1000 ^ 18 * 11 ^ S := Nat.mul_le_mul (Nat.mul_le_mul h3 (Nat.le_refl _)) (Nat.le_refl _)
    _ = pN 18 (fun j => pr j ^ exL j l) * 1000 ^ 18 * 11 ^ T * 11 ^ (S - T) := by rw [Nat.mul_assoc _ (11 ^ T), ← Nat.pow_add, ← e]
    _ ≤ pN 18 prc * 13 ^ T * 13 ^ (S - T) := Nat.mul_le_mul h1 h4
    _ = pN 18 prc * 13 ^ S := by rw [Nat.mul_assoc, ← Nat.pow_add, ← e]
theorem lcm_64 {l : List Nat} (h : ∀ a, a ∈ l → 1 ≤ a ∧ a ≤ 64) (hS : sumL l ≤ 64) : lcmL l ≤ 2300000 := by
  have h1 := lcm_le h hS
  have h2 : pN 18 prc * 13 ^ 64 ≤ 2300000 * (1000 ^ 18 * 11 ^ 64) := by decide +kernel
  rw [Nat.mul_assoc] at h1
  exact Nat.le_of_mul_le_mul_right (Nat.le_trans h1 h2) (by decide +kernel)
theorem lcm_128 {l : List Nat} (h : ∀ a, a ∈ l → 1 ≤ a ∧ a ≤ 64) (hS : sumL l ≤ 128) : lcmL l ≤ 110000000000 := by
  have h1 := lcm_le h hS
  have h2 : pN 18 prc * 13 ^ 128 ≤ 110000000000 * (1000 ^ 18 * 11 ^ 128) := by decide +kernel
  rw [Nat.mul_assoc] at h1
  exact Nat.le_of_mul_le_mul_right (Nat.le_trans h1 h2) (by decide +kernel)
theorem lcm_pos : ∀ l : List Nat, (∀ a, a ∈ l → 1 ≤ a) → 0 < lcmL l
  | [], _ => Nat.one_pos
  | a :: l, h => Nat.lcm_pos (h a List.mem_cons_self) (lcm_pos l fun b hb => h b (List.mem_cons_of_mem _ hb))
