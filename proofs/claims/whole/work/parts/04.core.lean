/-! THE LOGIC. A memory (Mem) says what the cells hold; G: the machine, at a method's place with these locals and this stack, returns with Q; Cm: a method's contract -/
abbrev Mem : Type := (Nat → Nat → Int32) × (Nat → Nat → Int64) × (Nat → Nat → Nat)
abbrev Th : Type := Launch × va_G × (Nat → Nat) × (Nat → ClassId) × Nat × (Nat → Int32)
abbrev Lc : Type := List (Option Value)
abbrev Po : Type := Option Value → Mem → Prop
def vv (Θ : Th) (v : Value) : Value := match v with
  | .ref k => .ref (Θ.2.2.1 k)
  | w => w
theorem vv_cat (Θ : Th) (v : Value) : (vv Θ v).category = v.category := by cases v <;> rfl
theorem vv_map_cat (Θ : Th) (S : List Value) : ((S.map (vv Θ)).map fun v => v.category) = S.map fun v => v.category := by
  rw [List.map_map]; apply List.map_congr_left; intro a _; exact vv_cat Θ a
def fld (Θ : Th) (σ : Mem) (o ci j : Nat) : Value :=
  if (fkq ci j).1 = 0 then .int (σ.1 o j) else if (fkq ci j).1 = 1 then .long (σ.2.1 o j) else if (fkq ci j).1 = 2 then .int (σ.1 o j)
  else if (fkq ci j).1 = 3 then (if σ.2.2 o j = 0 then .null else .ref (Θ.2.2.1 (σ.2.2 o j))) else if (fkq ci j).1 = 4 then .ref (Θ.2.2.1 (o + (fkq ci j).2)) else .ref (Θ.2.2.1 (fkq ci j).2)
def ent (Θ : Th) (σ : Mem) (k : Nat) : va_E :=
  if (shq k).1 = 20 then .inl (Θ.2.2.2.1 0, (shq k).2, .inl (σ.1 k))
  else if (shq k).1 = 21 then .inl (Θ.2.2.2.1 1, (shq k).2, .inr (.inl (σ.2.1 k)))
  else if (shq k).1 = 22 then .inl (Θ.2.2.2.1 2, (shq k).2, .inl (σ.1 k))
  else if (shq k).1 = 23 then .inl (Θ.2.2.2.1 3, (shq k).2, .inl (σ.1 k))
  else if (shq k).1 = 24 then .inl (Θ.2.2.2.1 4, (shq k).2, .inr (.inr (.inr (.inr (fun i => some (Θ.2.2.1 (47 + 10 * i)))))))
  else .inr ((shq k).1, (List.range (shq k).2).map (fld Θ σ k (shq k).1))
def NLab : Nat := 185
def cel (Θ : Th) (σ : Mem) : va_W := (List.range NLab).map (fun k => (Θ.2.2.1 k, ent Θ σ k))
/-- what may be written: all cells from the first one on -/
def AA (Θ : Th) : Nat → Prop := fun q => Θ.2.2.1 2000 ≤ q
def tysT (Θ : Th) : List (ClassId × FieldType) := [(Θ.2.2.2.1 0, .int), (Θ.2.2.2.1 1, .long), (Θ.2.2.2.1 2, .byte), (Θ.2.2.2.1 3, .boolean), (Θ.2.2.2.1 4, .object "LikeYears$Book")]
theorem cel_at (Θ : Th) (σ : Mem) {k : Nat} (h : k < NLab) : (cel Θ σ)[k]? = some (Θ.2.2.1 k, ent Θ σ k) := by simp [cel, h]
theorem cel_lt {Θ : Th} {σ : Mem} {k : Nat} {q : Nat × va_E} (h : (cel Θ σ)[k]? = some q) : k < NLab ∧ q = (Θ.2.2.1 k, ent Θ σ k) := by
  rcases Nat.lt_or_ge k NLab with hk | hk
  · rw [cel_at Θ σ hk] at h; exact ⟨hk, (Option.some.inj h).symm⟩
  · rw [List.getElem?_eq_none (by simp [cel, hk])] at h; cases h
theorem shL_len : shqL.length = 185 := by decide +kernel
theorem shp_lt {k : Nat} (h : (shq k).1 ≠ 99) : k < NLab := by
  rcases Nat.lt_or_ge k NLab with hk | hk
  · exact hk
  · exact absurd (by rw [shq, List.getD_eq_getElem?_getD, List.getElem?_eq_none (by rw [shL_len]; exact hk)]; rfl) h
/-- the cells are apart, and new -/
def Lin (Θ : Th) : Prop := (∀ i j, i < NLab → j < NLab → Θ.2.2.1 i = Θ.2.2.1 j → i = j) ∧ ∀ k, k < NLab → Θ.2.2.1 2000 ≤ Θ.2.2.1 k
theorem cel_D {Θ : Th} (hI : Lin Θ) (σ : Mem) : va_D (AA Θ) (cel Θ σ) := by
  refine ⟨fun i j p q hi hj e => ?_, fun k q hk => ?_⟩
  · obtain ⟨h1, rfl⟩ := cel_lt hi
    obtain ⟨h2, rfl⟩ := cel_lt hj
    exact hI.1 i j h1 h2 e
  · obtain ⟨h1, rfl⟩ := cel_lt hk
    exact hI.2 k h1
theorem cel_set {Θ : Th} {σ σ' : Mem} {k : Nat} {e : va_E} (hk : k < NLab) (he : ent Θ σ' k = e) (ho : ∀ j, j ≠ k → ent Θ σ' j = ent Θ σ j) : (cel Θ σ).set k (Θ.2.2.1 k, e) = cel Θ σ' := by
  apply List.ext_getElem?
  intro i
  rw [List.getElem?_set]
  by_cases hik : k = i
  · subst hik
    rw [if_pos rfl, if_pos (by simp [cel, hk]), cel_at Θ σ' hk, he]
  · rw [if_neg hik]
    rcases Nat.lt_or_ge i NLab with hi | hi
    · rw [cel_at Θ σ hi, cel_at Θ σ' hi, ho i (fun h => hik h.symm)]
    · rw [List.getElem?_eq_none (by simp [cel, hi]), List.getElem?_eq_none (by simp [cel, hi])]
/-! writes -/
def sI (σ : Mem) (o k : Nat) (v : Int32) : Mem := (fun a b => if a = o ∧ b = k then v else σ.1 a b, σ.2.1, σ.2.2)
def sL (σ : Mem) (o k : Nat) (v : Int64) : Mem := (σ.1, fun a b => if a = o ∧ b = k then v else σ.2.1 a b, σ.2.2)
def sR (σ : Mem) (o k : Nat) (v : Nat) : Mem := (σ.1, σ.2.1, fun a b => if a = o ∧ b = k then v else σ.2.2 a b)
theorem sI_ne {σ : Mem} {o k j : Nat} {v : Int32} (h : j ≠ o) : (sI σ o k v).1 j = σ.1 j := by funext b; simp [sI, h]
theorem sL_ne {σ : Mem} {o k j : Nat} {v : Int64} (h : j ≠ o) : (sL σ o k v).2.1 j = σ.2.1 j := by funext b; simp [sL, h]
theorem sR_ne {σ : Mem} {o k j : Nat} {v : Nat} (h : j ≠ o) : (sR σ o k v).2.2 j = σ.2.2 j := by funext b; simp [sR, h]
theorem ent_I {Θ : Th} {σ : Mem} {o k j : Nat} {v : Int32} (h : j ≠ o) : ent Θ (sI σ o k v) j = ent Θ σ j := by
  have h1 : (sI σ o k v).1 j = σ.1 j := sI_ne h
  have h2 : fld Θ (sI σ o k v) j (shq j).1 = fld Θ σ j (shq j).1 := by funext q; simp only [fld, h1]; rfl
  simp only [ent, h1, h2]; rfl
theorem ent_L {Θ : Th} {σ : Mem} {o k j : Nat} {v : Int64} (h : j ≠ o) : ent Θ (sL σ o k v) j = ent Θ σ j := by
  have h1 : (sL σ o k v).2.1 j = σ.2.1 j := sL_ne h
  have h2 : fld Θ (sL σ o k v) j (shq j).1 = fld Θ σ j (shq j).1 := by funext q; simp only [fld, h1]; rfl
  simp only [ent, h1, h2]; rfl
theorem ent_R {Θ : Th} {σ : Mem} {o k j : Nat} {v : Nat} (h : j ≠ o) : ent Θ (sR σ o k v) j = ent Θ σ j := by
  have h1 : (sR σ o k v).2.2 j = σ.2.2 j := sR_ne h
  have h2 : fld Θ (sR σ o k v) j (shq j).1 = fld Θ σ j (shq j).1 := by funext q; simp only [fld, h1]; rfl
  simp only [ent, h2]; rfl
/-! what a state must have beside the cells: the tables' words of classes and arrays, the script, the static array of words that are no names -/
def nnL : List Int64 := [0x6D61726B, 0x746F, 0x6E65766572, 0x63617365, 0x6A75646765, 0x696E, 0x676976656E, 0x776569676874, 0x746F6C64, 0x6F766572, 0x7768656E, 0x6C65617374, 0x6D6F7374, 0x6F72, 0x616E64, 0x6E6F74]
def nnV (i : Nat) : Int64 := nnL.getD i 0
def gt : List Cond := lw_tbl.filter goodWord
theorem in_gt {w : Cond} (h : w ∈ lw_tbl) (hg : goodWord w = true) : w ∈ gt := List.mem_filter.mpr ⟨h, hg⟩
theorem gt_in {w : Cond} (h : w ∈ gt) : w ∈ lw_tbl := (List.mem_filter.mp h).1
theorem gt_at {i : Nat} {w : Cond} (h : lw_tbl[i]? = some w) (hg : goodWord w = true) : w ∈ gt := in_gt (List.mem_of_getElem? h) hg
def Wx (Θ : Th) (s : State) : Prop := vk_R "LikeYears$Tape" 77 "()<>=+-*" (Θ.2.2.1 1002) s ∧ va_Nw (.fieldLinkNest "LikeYears$Tape" 88 "LikeYears" "NO_NAMES" "[J" "LikeYears") s
def Ws (Θ : Th) (s : State) : Prop :=
  va_K Θ.2.1 clss (tysT Θ) s ∧ Lin Θ ∧ (va_X (Θ.2.2.1 1000) Θ.2.2.2.2.1 Θ.2.2.2.2.2 s s.heap ∧ Θ.2.2.1 1000 < s.heap.size ∧ ¬ AA Θ (Θ.2.2.1 1000)) ∧
  va_Z "LikeYears" "NO_NAMES" "[J" (.ref (Θ.2.2.1 1001)) (AA Θ) s s.heap ∧ va_T .long (Θ.2.2.1 1001) 16 (fun i => .long (nnV i)) (AA Θ) s s.heap ∧
  Wx Θ s ∧ vk_S 1 [8] [[40, 41, 60, 62, 61, 43, 45, 42]] (fun _ => Θ.2.2.1 1002) (fun _ => Θ.2.2.1 1003) (AA Θ) s s.heap ∧ va_Z "java/lang/String" "COMPACT_STRINGS" "Z" (.int 1) (AA Θ) s s.heap
/-! locals -/
def lget : Lc → Nat → Option Value
  | [], _ => none
  | x :: _, 0 => x
  | _ :: t, k + 1 => lget t k
def clr (x : Option Value) : Option Value := match x with
  | some (.long _) => none
  | some (.double _) => none
  | y => y
def lst1 : Lc → Nat → Value → Lc
  | [], _, _ => []
  | _ :: t, 0, v => some v :: t
  | x :: t, 1, v => clr x :: lst1 t 0 v
  | x :: t, k + 2, v => x :: lst1 t (k + 1) v
def lcl : Lc → Lc
  | [] => []
  | _ :: t => none :: t
def lst2 : Lc → Nat → Value → Lc
  | [], _, _ => []
  | _ :: t, 0, v => some v :: lcl t
  | x :: t, 1, v => clr x :: lst2 t 0 v
  | x :: t, k + 2, v => x :: lst2 t (k + 1) v
def LE : Lc → Lc → Prop
  | [], _ => True
  | none :: t, _ :: t' => LE t t'
  | some v :: t, w :: t' => w = some v ∧ LE t t'
  | _ :: _, [] => False
theorem LE_get : ∀ (A B : Lc), LE A B → ∀ i v, lget A i = some v → lget B i = some v
  | [], _, _, i, v, h => by cases h
  | none :: t, _ :: t', hl, 0, v, h => by cases h
  | none :: t, _ :: t', hl, i + 1, v, h => LE_get t t' hl i v h
  | some a :: t, w :: t', hl, 0, v, h => by rw [show lget (w :: t') 0 = w from rfl, hl.1]; exact h
  | some a :: t, w :: t', hl, i + 1, v, h => LE_get t t' hl.2 i v h
  | none :: _, [], hl, _, _, _ => False.elim hl
  | some _ :: _, [], hl, _, _, _ => False.elim hl
theorem clr_some {x : Option Value} {w : Value} (h : clr x = some w) : x = some w ∧ w.category ≠ 2 := by
  cases x with
  | none => cases h
  | some v => cases v <;> first | (cases h; done) | (cases h; exact ⟨rfl, by simp [Value.category]⟩)
theorem lst1_get : ∀ (L : Lc) (i : Nat) (v : Value) (j : Nat) (w : Value), lget (lst1 L i v) j = some w → (j = i ∧ w = v) ∨ (j ≠ i ∧ lget L j = some w ∧ ¬ (j + 1 = i ∧ w.category = 2))
  | [], _, _, _, _, h => by cases h
  | x :: t, 0, v, 0, w, h => Or.inl ⟨rfl, by cases h; rfl⟩
  | x :: t, 0, v, j + 1, w, h => Or.inr ⟨by omega, h, fun q => by omega⟩
  | x :: t, 1, v, 0, w, h => Or.inr ⟨by omega, (clr_some h).1, fun q => (clr_some h).2 q.2⟩
  | x :: t, 1, v, j + 1, w, h => by
    rcases lst1_get t 0 v j w h with ⟨a, b⟩ | ⟨a, b, c⟩
    · exact Or.inl ⟨by omega, b⟩
    · exact Or.inr ⟨by omega, b, fun q => by omega⟩
  | x :: t, k + 2, v, 0, w, h => Or.inr ⟨by omega, h, fun q => by omega⟩
  | x :: t, k + 2, v, j + 1, w, h => by
    rcases lst1_get t (k + 1) v j w h with ⟨a, b⟩ | ⟨a, b, c⟩
    · exact Or.inl ⟨by omega, b⟩
    · exact Or.inr ⟨by omega, b, fun q => c ⟨by omega, q.2⟩⟩
theorem lst2_get : ∀ (L : Lc) (i : Nat) (v : Value) (j : Nat) (w : Value), lget (lst2 L i v) j = some w → (j = i ∧ w = v) ∨ (j ≠ i ∧ j ≠ i + 1 ∧ lget L j = some w ∧ ¬ (j + 1 = i ∧ w.category = 2))
  | [], _, _, _, _, h => by cases h
  | x :: t, 0, v, 0, w, h => Or.inl ⟨rfl, by cases h; rfl⟩
  | x :: [], 0, v, j + 1, w, h => by cases h
  | x :: y :: t, 0, v, 1, w, h => by cases h
  | x :: y :: t, 0, v, j + 2, w, h => Or.inr ⟨by omega, by omega, h, fun q => by omega⟩
  | x :: t, 1, v, 0, w, h => Or.inr ⟨by omega, by omega, (clr_some h).1, fun q => (clr_some h).2 q.2⟩
  | x :: t, 1, v, j + 1, w, h => by
    rcases lst2_get t 0 v j w h with ⟨a, b⟩ | ⟨a, a', b, c⟩
    · exact Or.inl ⟨by omega, b⟩
    · exact Or.inr ⟨by omega, by omega, b, fun q => by omega⟩
  | x :: t, k + 2, v, 0, w, h => Or.inr ⟨by omega, by omega, h, fun q => by omega⟩
  | x :: t, k + 2, v, j + 1, w, h => by
    rcases lst2_get t (k + 1) v j w h with ⟨a, b⟩ | ⟨a, a', b, c⟩
    · exact Or.inl ⟨by omega, b⟩
    · exact Or.inr ⟨by omega, by omega, b, fun q => c ⟨by omega, q.2⟩⟩
def LR (Θ : Th) (n : Nat) (L : Lc) (ls : Array Slot) : Prop := ls.size = n ∧ lv_wf ls ∧ ∀ i v, lget L i = some v → ls[i]? = some (.val (vv Θ v))
def lvL (Θ : Th) (n : Nat) (L : Lc) : List (Nat × Value) := (List.range n).filterMap fun j => (lget L j).map fun w => (j, vv Θ w)
theorem lvL_has {Θ : Th} {n : Nat} {L : Lc} {ls : Array Slot} (h : LR Θ n L ls) : lv_has ls n (lvL Θ n L) := by
  refine ⟨h.1, h.2.1, fun q hq => ?_⟩
  obtain ⟨j, -, hj⟩ := List.mem_filterMap.mp hq
  cases hg : lget L j with
  | none => rw [hg] at hj; cases hj
  | some w => rw [hg] at hj; cases hj; exact h.2.2 j w hg
theorem lvL_in {Θ : Th} {n : Nat} {L : Lc} {ls : Array Slot} (h : LR Θ n L ls) {j : Nat} {w : Value} (hg : lget L j = some w) : (j, vv Θ w) ∈ lvL Θ n L := by
  have hj : j < n := by
    have := h.2.2 j w hg
    rw [← h.1]; exact (Array.getElem?_eq_some_iff.mp this).1
  exact List.mem_filterMap.mpr ⟨j, List.mem_range.mpr hj, by rw [hg]; rfl⟩
theorem LR_st1 {Θ : Th} {n : Nat} {L : Lc} {ls ls' : Array Slot} (h : LR Θ n L ls) {i : Nat} {v : Value} (h' : lv_has ls' n ((i, vv Θ v) :: (lvL Θ n L).filter (fun q => !(q.1 == i) && !(q.1 + 1 == i && q.2.category == 2)))) : LR Θ n (lst1 L i v) ls' := by
  refine ⟨h'.1, h'.2.1, fun j w hg => ?_⟩
  rcases lst1_get L i v j w hg with ⟨rfl, rfl⟩ | ⟨a, b, c⟩
  · exact h'.2.2 (j, vv Θ w) List.mem_cons_self
  · refine h'.2.2 (j, vv Θ w) (List.mem_cons_of_mem _ (List.mem_filter.mpr ⟨lvL_in h b, ?_⟩))
    have e1 : (j == i) = false := by simp [a]
    rw [Bool.and_eq_true]
    refine ⟨by simp [a], ?_⟩
    rw [Bool.not_eq_true']
    rw [Bool.and_eq_false_iff]
    by_cases hj : j + 1 = i
    · refine Or.inr ?_
      have : (vv Θ w).category ≠ 2 := fun q => c ⟨hj, by rw [← vv_cat Θ w]; exact q⟩
      simp [this]
    · exact Or.inl (by simp [hj])
theorem LR_st2 {Θ : Th} {n : Nat} {L : Lc} {ls ls' : Array Slot} (h : LR Θ n L ls) {i : Nat} {v : Value} (h' : lv_has ls' n ((i, vv Θ v) :: (lvL Θ n L).filter (fun q => !(q.1 == i) && (!(q.1 == i + 1) && !(q.1 + 1 == i && q.2.category == 2))))) : LR Θ n (lst2 L i v) ls' := by
  refine ⟨h'.1, h'.2.1, fun j w hg => ?_⟩
  rcases lst2_get L i v j w hg with ⟨rfl, rfl⟩ | ⟨a, a', b, c⟩
  · exact h'.2.2 (j, vv Θ w) List.mem_cons_self
  · refine h'.2.2 (j, vv Θ w) (List.mem_cons_of_mem _ (List.mem_filter.mpr ⟨lvL_in h b, ?_⟩))
    rw [Bool.and_eq_true]
    refine ⟨by simp [a], ?_⟩
    rw [Bool.and_eq_true]
    refine ⟨by simp [a'], ?_⟩
    rw [Bool.not_eq_true']
    rw [Bool.and_eq_false_iff]
    by_cases hj : j + 1 = i
    · refine Or.inr ?_
      have : (vv Θ w).category ≠ 2 := fun q => c ⟨hj, by rw [← vv_cat Θ w]; exact q⟩
      simp [this]
    · exact Or.inl (by simp [hj])
