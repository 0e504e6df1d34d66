/-! ROWS of the logic: a method's contract out of its body; calls; copies -/
theorem Ws_moved {Θ : Th} {s U : State} {H : Heap} {locs : List Loc} (hw : Ws Θ s) (hS : va_S (AA Θ) s.heap H locs) (hU : U.heap = H) (hvm : s.vm.Alike U.vm) (hR : Wx Θ s → Wx Θ U) : Ws Θ U := by
  obtain ⟨hK, hI, ⟨hX, hb, hA⟩, hZ, hT, hV, hW, hY⟩ := hw
  have hk : ∀ a : Nat, a < s.heap.size → ¬ AA Θ a → H[a]? = s.heap[a]? := hS.2.1
  refine ⟨va_K.moved hvm hK, hI, ⟨?_, ?_, hA⟩, ?_, ?_, hR hV, ?_, ?_⟩
  · rw [hU]; exact va_X.moved hvm (hX.kept (hk _ hb hA))
  · rw [hU]; exact Nat.lt_of_lt_of_le hb hS.1
  · rw [hU]; exact va_Z.moved hvm (hZ.kept hk)
  · rw [hU]; exact va_T.moved hvm (hT.kept hk)
  · rw [hU]; exact vk_S.moved hvm (hW.kept hk)
  · rw [hU]; exact va_Z.moved hvm (hY.kept hk)
def entA : List Value → Lc
  | [] => []
  | v :: t => if v.category = 2 then some v :: none :: entA t else some v :: entA t
def entL (as : List Value) (n : Nat) : Lc := entA as ++ List.replicate (n - (entA as).length) none
theorem lget_app : ∀ (A B : Lc) (i : Nat) (v : Value), lget (A ++ B) i = some v → lget A i = some v ∨ ∃ k, lget B k = some v
  | [], B, i, v, h => Or.inr ⟨i, h⟩
  | x :: t, B, 0, v, h => Or.inl h
  | x :: t, B, i + 1, v, h => lget_app t B i v h
theorem lget_none : ∀ (n i : Nat) (v : Value), lget (List.replicate n none) i ≠ some v
  | 0, _, _ => fun h => by cases h
  | n + 1, 0, _ => fun h => by cases h
  | n + 1, i + 1, v => lget_none n i v
theorem entA_get (Θ : Th) : ∀ (as : List Value) (i j : Nat) (v : Value), lget (entA as) i = some v → (j + i, vv Θ v) ∈ lv_args j (as.map (vv Θ))
  | [], i, j, v, h => by cases h
  | w :: t, i, j, v, h => by
    rw [entA] at h
    show (j + i, vv Θ v) ∈ (j, vv Θ w) :: lv_args (if (vv Θ w).category = 2 then j + 2 else j + 1) (t.map (vv Θ))
    rw [vv_cat]
    by_cases hc : w.category = 2
    · rw [if_pos hc] at h ⊢
      match i, h with
      | 0, h => cases h; exact List.mem_cons_self
      | 1, h => cases h
      | i + 2, h =>
        have := entA_get Θ t i (j + 2) v h
        rw [show j + (i + 2) = j + 2 + i by omega]
        exact List.mem_cons_of_mem _ this
    · rw [if_neg hc] at h ⊢
      match i, h with
      | 0, h => cases h; exact List.mem_cons_self
      | i + 1, h =>
        have := entA_get Θ t i (j + 1) v h
        rw [show j + (i + 1) = j + 1 + i by omega]
        exact List.mem_cons_of_mem _ this
theorem entA_len (Θ : Th) : ∀ as : List Value, (lg_sl (as.map (vv Θ))).length = (entA as).length
  | [] => rfl
  | w :: t => by
    have ih := entA_len Θ t
    rw [lg_sl] at ih ⊢
    rw [List.map_cons, List.flatMap_cons, List.length_append, ih, entA, vv_cat]
    by_cases hc : w.category = 2
    · rw [if_pos hc, if_pos hc]; simp only [List.length_cons, List.length_nil]; omega
    · rw [if_neg hc, if_neg hc]; simp only [List.length_cons, List.length_nil]; omega
theorem chkM_of {mi : Nat} (hM : chkM mi = true) : (mrow mi).1.cls = cnm (moc mi) ∧ cnm (moc mi) ≠ "java/lang/invoke/MethodHandle" ∧ cnm (moc mi) ≠ "java/lang/invoke/VarHandle" ∧ (parseMethodDescriptor (mrow mi).1.desc).map (fun d => d.parameters.length) = some (mnp mi) ∧ plainName (cnm (moc mi)) = true ∧ mml mi ≤ 40 ∧
    Cond.code (mrow mi).1 (mby mi) (mml mi) (mrt mi) ∈ gt ∧ Cond.initialized (cnm (moc mi)) ∈ gt ∧ (if mst mi = true then Cond.static (mrow mi).1 ∈ gt else Cond.instanceMethod (mrow mi).1 ∈ gt ∧ Cond.selects (cnm (moc mi)) (mrow mi).1 (mrow mi).1 ∈ gt) := by
  simp only [chkM, Bool.and_eq_true, decide_eq_true_eq] at hM
  obtain ⟨⟨⟨⟨⟨⟨⟨⟨h1, h2⟩, h3⟩, h4⟩, h5⟩, h6⟩, h7⟩, h8⟩, h9⟩ := hM
  refine ⟨h1, h2, h3, h4, h5, h6, gt_at h7 rfl, gt_at h8 rfl, ?_⟩
  by_cases hs : mst mi = true
  · rw [if_pos hs]
    rw [if_pos (show (mrow mi).2.2.2.2.2.2.1 = true from hs), decide_eq_true_eq] at h9
    exact gt_at h9 rfl
  · rw [if_neg hs]
    rw [if_neg (show ¬ (mrow mi).2.2.2.2.2.2.1 = true from hs), Bool.and_eq_true, decide_eq_true_eq, decide_eq_true_eq] at h9
    exact ⟨gt_at h9.1 rfl, gt_at h9.2 rfl⟩
theorem C_of_G {Θ : Th} {d mi : Nat} {as : List Value} {σ : Mem} {Q : Po} {L0 : Lc} (hM : chkM mi = true) (hlen : (entA as).length ≤ mml mi) (hL : entL as (mml mi) = L0) (h : G Θ d mi 0 L0 [] σ Q) : Cm Θ d mi as σ Q := by
  obtain ⟨h1, h2, h3, h4, h5, h6, h7, h8, h9⟩ := chkM_of hM
  refine Met.ofW (cc := mby mi) (maxL := mml mi) (ret := mrt mi) (by rw [h1]; exact h5) rfl ?_
  intro p e s m args below meth c s₁ B hml hv
  obtain ⟨rfl, hw, hP⟩ := hv
  have hts0 : ∀ w ∈ wds mi, w.before (as.map (vv Θ)).toArray s = true := atoms_spec (ws := wds mi) B.pre
  have hts : ∀ w ∈ gt, w.before (as.map (vv Θ)).toArray s = true := fun w hw => hts0 w (List.mem_cons_of_mem _ hw)
  have hown : s.vm.findClass (cnm (moc mi)) = some m.cls := by rw [← h1]; exact findClass_of_methodNamed B.named
  have hlocks := B.notSynchronized
  have hr := B.returns
  have hl := lv_entry (as.map (vv Θ)) (n := mml mi) (by rw [entA_len]; exact hlen)
  rw [lg_entry_eq]
  generalize (lg_sl (as.map (vv Θ)) ++ List.replicate (mml mi - (lg_sl (as.map (vv Θ))).length) Slot.unset).toArray = ls at hl ⊢
  refine h p e (rmd d) s m _ below meth c s.heap [] 0 0 _ ls ⟨B.exec, B.bytes, hml, hown, hts, Nat.le_refl _, Nat.le_refl _⟩ ⟨Nat.le_refl _, Nat.le_refl _⟩ hw hP va_S.rf ⟨hl.1, hl.2.1, fun i v hg => ?_⟩ ?_
  · rw [← hL, entL] at hg
    rcases lget_app _ _ i v hg with h | ⟨k, h⟩
    · have := entA_get Θ as i 0 v h
      rw [Nat.zero_add] at this
      exact hl.2.2 _ this
    · exact absurd h (lget_none _ _ _)
  · intro pc' ls' H' locs' r σ' hq hP' hS' hra
    have hQ : ∀ t : State, t.heap = H' → s.WarmedH t.vm → ∃ (r' : Option Value) (σ'' : Mem), Outcome.returned (r.map (vv Θ)) = .returned (r'.map (vv Θ)) ∧ Q r' σ'' ∧ va_P Θ.2.1 clss (cel Θ σ'') t.heap ∧ va_F (AA Θ) s t := fun t ht _ => ⟨r, σ', rfl, hq, by rw [ht]; exact hP', hS'.F ht⟩
    rcases hra with ⟨v, rfl, hdec, hrt⟩ | ⟨v, rfl, hdec, hrt⟩ | ⟨k, n, rfl, hdec, hrt⟩ | ⟨rfl, hdec, hrt⟩
    · rcases hrt with hrt | ⟨hrt, hv⟩ | ⟨hrt, rfl⟩
      · exact W.iret B.exec B.bytes (by rw [hr, hrt]) hQ hS'.2.2 hdec hlocks
      · exact W.zret (ty := .boolean) B.exec B.bytes (by rw [hr, hrt]) (by rcases hv with rfl | rfl <;> rfl) hQ hS'.2.2 hdec hlocks
      · exact W.zret (ty := .byte) B.exec B.bytes (by rw [hr, hrt]) rfl hQ hS'.2.2 hdec hlocks
    · exact W.lret B.exec B.bytes (by rw [hr, hrt]) hQ hS'.2.2 hdec hlocks
    · exact W.aret (rt := .object n) B.exec B.bytes (by rw [hr, hrt]) (Or.inl ⟨n, rfl⟩) (Or.inr ⟨_, rfl⟩) hQ hS'.2.2 hdec hlocks
    · exact W.vret B.exec B.bytes (by rw [hr, hrt]) hQ hS'.2.2 hdec hlocks
section calls
variable {Θ : Th} {d mi pc nx : Nat} {mc : List (Nat × Ins)} {L : Lc} {S S0 : List Value} {σ : Mem} {Q : Po} {u : Nat × Nat × Int}
theorem call_any {p : Program} {e : Env} {R : Room} {s : State} {m : MethodId} {args : Array Value} {below : List Frame} {meth : Method} {c : Code} {H : Heap} {locs : List Loc} {cells slots : Nat} {QQ : State → Prop} {ls : Array Slot} {a : Array Value} {st0 : List Value} {q : Po}
    (hr : va_Run p Θ.1 e R s m args below meth c H locs cells slots 0 0 (F0 m pc ls st0) (S.map (vv Θ)) ((fun (_ : Array Value) (st : State) (oc : Outcome) (t : State) => ∃ (r : Option Value) (σ' : Mem), oc = .returned (r.map (vv Θ)) ∧ q r σ' ∧ va_P Θ.2.1 clss (cel Θ σ') t.heap ∧ va_F (AA Θ) st t) a) (AA Θ))
    (hS : va_S (AA Θ) s.heap H locs)
    (kk : ∀ (r : Option Value) (σ' : Mem) (H1 : Heap) (locs1 : List Loc), q r σ' → va_P Θ.2.1 clss (cel Θ σ') H1 → va_S (AA Θ) s.heap H1 locs1 → W p Θ.1 e R s m args below meth c H1 locs1 cells slots QQ (F0 m (pc + 3) ls ((r.toList ++ S).map (vv Θ)))) :
    W p Θ.1 e R s m args below meth c H locs cells slots QQ (F0 m pc ls st0) := by
  intro T hT X
  obtain ⟨v, st₀, t, T', L', h0, X', hL, e1, e2, ⟨r, σ', hv, hq, hP1, hz, hk⟩, st⟩ := hr T hT X
  cases hv
  rw [h0] at hz hk
  have hS1 : va_S (AA Θ) s.heap T'.heap (locs ++ L') := ⟨Nat.le_trans hS.1 (by rw [e1]; exact hz), fun q h1 h2 => by rw [e1, hk q (Nat.lt_of_lt_of_le h1 hS.1) h2]; exact hS.2.1 q h1 h2, fun q hq => by
    rcases List.mem_append.mp hq with h | h
    · exact hS.2.2 q h
    · exact hL q h⟩
  obtain ⟨t2, a1, b1⟩ := kk r σ' T'.heap (locs ++ L') hq (by rw [e1]; exact hP1) hS1 T' rfl X'
  refine ⟨t2, st t2 ?_, b1⟩
  rw [show (Option.map (vv Θ) r).toList ++ S.map (vv Θ) = (r.toList ++ S).map (vv Θ) by cases r <;> simp]
  exact a1
theorem Pc_blind {as : List Value} : FrameBlind (va_Pc (as.map (vv Θ)) (fun U => Ws Θ U ∧ va_P Θ.2.1 clss (cel Θ σ) U.heap)) := by
  intro a U g mk q
  obtain ⟨q0, q1, q2⟩ := q
  exact ⟨q0, Ws_moved (H := U.heap) (locs := []) q1 va_S.rf rfl (Vm.Alike.refl U.vm) (fun h => ⟨vk_R.same (u := U) rfl h.1, va_Nw.same (u := U) rfl rfl h.2⟩), q2⟩
theorem r_invV {idx mj b o : Nat} {z : Int} {as : List Value} {q : Po} (hok : mc.all (fun q => chkI mi q.1 q.2) = true) (j : Nat) (hi : mc[j]? = some (pc, .invokevirtual idx, nx, mj, b, z)) (hn : pc + 3 = nx) (h9 : mj < 9000) (hM : chkM mj = true) (hst : mst mj = false) (hso : (shq o).1 = moc mj) (hco : moc mj < 13) (hcn : (clss.getD (moc mj) (RX0, TX0, 0)).1 = cnm (moc mj)) (hlen : as.length = mnp mj) (hcat : (S.map fun v => v.category).sum ≤ 8) (hS0 : S0 = as.reverse ++ .ref o :: S)
    (h : Cm Θ d mj (.ref o :: as) σ q) (kk : ∀ r σ', q r σ' → G Θ (d + 1) mi nx L (r.toList ++ S) σ' Q) : G Θ (d + 1) mi pc L S0 σ Q := by
  intro p e R s m args below meth c H locs cells slots QQ ls hC hroom hw hP hS hl hret
  have hd := dec_at hok hi hn
  have hc := chk_at hok hi
  simp only [chkI, Bool.and_eq_true, Bool.or_eq_true, decide_eq_true_eq] at hc
  have hlw := (hc.2.resolve_left (by omega)).2
  subst hn
  obtain ⟨h1, h2, h3, h4, h5, h6, h7, h8, h10⟩ := chkM_of hM
  rw [if_neg (by rw [hst]; decide)] at h10
  have hts := hC.2.2.2.2.1
  have hG : GoodIn gt (wds mj) := fun w hw => by
    rcases List.mem_cons.mp hw with rfl | hw
    · exact ⟨h7, good_of_word (List.mem_filter.mp h7).2⟩
    · exact ⟨hw, good_of_word (List.mem_filter.mp hw).2⟩
  have hfr : (rmd d).frames + 1 ≤ R.frames := hC.2.2.2.2.2.1
  have hlo : 8 + (mml mj + 11) + (rmd d).locals ≤ R.locals := by
    have := hC.2.2.2.2.2.2
    show 8 + (mml mj + 11) + 64 * d ≤ R.locals
    omega
  have cb := callB_of (R := R) (mnp mj) hts hG rfl (rm := rmd d) (mc := 0) (ms := 0) rfl rfl (by rw [h1]; exact hts _ h8) (hts _ (gt_at hlw rfl)) ⟨by rw [h1]; exact h2, by rw [h1]; exact h3, h4⟩ ⟨hfr, hlo⟩
  have hrecv := va_recv hw.1 hP (cls_at hco) (obj_at hso hco)
  simp only at hrecv
  rw [hcn] at hrecv
  subst hS0
  refine call_any (a := (Value.ref (Θ.2.2.1 o) :: as.map (vv Θ)).toArray) (va_runV (As := as.map (vv Θ)) (rest := S.map (vv Θ)) (C := cnm (moc mj)) ⟨hC.1, hC.2.1, hC.2.2.1, hC.2.2.2.1, hts⟩ h ⟨cb, hts _ h10.1, hts _ h10.2⟩ ⟨Pc_blind (as := .ref o :: as), hrecv, fun U hU hW => ⟨rfl, Ws_moved hw hS hU hW.alike (fun h => ⟨vk_R.warm hW h.1, va_Nw.warmF hW h.2⟩), by rw [hU]; exact hP⟩⟩ rfl (by rw [List.length_map]; exact hlen) hl.1 ?_ (lv_room (by rw [vv_map_cat]; exact hcat)) hd ⟨hroom.1, hroom.2⟩) hS (fun r σ' H1 locs1 hq hP1 hS1 => ?_)
  · show List.map (vv Θ) (as.reverse ++ .ref o :: S) = (as.map (vv Θ)).reverse ++ .ref (Θ.2.2.1 o) :: S.map (vv Θ)
    rw [List.map_append, List.map_reverse]; rfl
  · exact kk r σ' hq p e R s m args below meth c H1 locs1 cells slots QQ ls hC hroom hw hP1 hS1 hl hret
theorem r_invS {idx mj b : Nat} {z : Int} {as : List Value} {q : Po} (hok : mc.all (fun q => chkI mi q.1 q.2) = true) (j : Nat) (hi : mc[j]? = some (pc, .invokestatic idx, nx, mj, b, z)) (hn : pc + 3 = nx) (h9 : mj < 9000) (hM : chkM mj = true) (hst : mst mj = true) (hlen : as.length = mnp mj) (hcat : (S.map fun v => v.category).sum ≤ 8) (hS0 : S0 = as.reverse ++ S)
    (h : Cm Θ d mj as σ q) (kk : ∀ r σ', q r σ' → G Θ (d + 1) mi nx L (r.toList ++ S) σ' Q) : G Θ (d + 1) mi pc L S0 σ Q := by
  intro p e R s m args below meth c H locs cells slots QQ ls hC hroom hw hP hS hl hret
  have hd := dec_at hok hi hn
  have hc := chk_at hok hi
  simp only [chkI, Bool.and_eq_true, Bool.or_eq_true, decide_eq_true_eq] at hc
  have hlw := (hc.2.resolve_left (by omega)).2
  subst hn
  obtain ⟨h1, h2, h3, h4, h5, h6, h7, h8, h10⟩ := chkM_of hM
  rw [if_pos hst] at h10
  have hts := hC.2.2.2.2.1
  have hG : GoodIn gt (wds mj) := fun w hw => by
    rcases List.mem_cons.mp hw with rfl | hw
    · exact ⟨h7, good_of_word (List.mem_filter.mp h7).2⟩
    · exact ⟨hw, good_of_word (List.mem_filter.mp hw).2⟩
  have hfr : (rmd d).frames + 1 ≤ R.frames := hC.2.2.2.2.2.1
  have hlo : 8 + (mml mj + 11) + (rmd d).locals ≤ R.locals := by
    have := hC.2.2.2.2.2.2
    show 8 + (mml mj + 11) + 64 * d ≤ R.locals
    omega
  have cb := callB_of (R := R) (mnp mj) hts hG rfl (rm := rmd d) (mc := 0) (ms := 0) rfl rfl (by rw [h1]; exact hts _ h8) (hts _ (gt_at hlw rfl)) ⟨by rw [h1]; exact h2, by rw [h1]; exact h3, h4⟩ ⟨hfr, hlo⟩
  subst hS0
  refine call_any (a := (as.map (vv Θ)).toArray) (va_runS (As := as.map (vv Θ)) (rest := S.map (vv Θ)) ⟨hC.1, hC.2.1, hC.2.2.1, hC.2.2.2.1, hts⟩ h ⟨cb, hts _ h10⟩ ⟨Pc_blind, fun U hU hW => ⟨rfl, Ws_moved hw hS hU hW.alike (fun h => ⟨vk_R.warm hW h.1, va_Nw.warmF hW h.2⟩), by rw [hU]; exact hP⟩⟩ rfl (by rw [List.length_map]; exact hlen) hl.1 ?_ (lv_room (by rw [vv_map_cat]; exact hcat)) hd ⟨hroom.1, hroom.2⟩) hS (fun r σ' H1 locs1 hq hP1 hS1 => ?_)
  · show List.map (vv Θ) (as.reverse ++ S) = (as.map (vv Θ)).reverse ++ S.map (vv Θ)
    rw [List.map_append, List.map_reverse]
  · exact kk r σ' hq p e R s m args below meth c H1 locs1 cells slots QQ ls hC hroom hw hP1 hS1 hl hret
end calls
/-! typed contracts -/
def Ci (Θ : Th) (d mi : Nat) (as : List Value) (σ : Mem) (q : Int32 → Mem → Prop) : Prop := Cm Θ d mi as σ (fun r σ' => ∃ x, r = some (.int x) ∧ q x σ')
def Cl (Θ : Th) (d mi : Nat) (as : List Value) (σ : Mem) (q : Int64 → Mem → Prop) : Prop := Cm Θ d mi as σ (fun r σ' => ∃ x, r = some (.long x) ∧ q x σ')
def Cr (Θ : Th) (d mi : Nat) (as : List Value) (σ : Mem) (q : Nat → Mem → Prop) : Prop := Cm Θ d mi as σ (fun r σ' => ∃ x, r = some (.ref x) ∧ q x σ')
def Cv (Θ : Th) (d mi : Nat) (as : List Value) (σ : Mem) (q : Mem → Prop) : Prop := Cm Θ d mi as σ (fun r σ' => r = none ∧ q σ')
def Pi (q : Int32 → Mem → Prop) : Po := fun r σ' => ∃ x, r = some (.int x) ∧ q x σ'
def Pl (q : Int64 → Mem → Prop) : Po := fun r σ' => ∃ x, r = some (.long x) ∧ q x σ'
def Pr (q : Nat → Mem → Prop) : Po := fun r σ' => ∃ x, r = some (.ref x) ∧ q x σ'
def Pv (q : Mem → Prop) : Po := fun r σ' => r = none ∧ q σ'
theorem Ci.mono {Θ : Th} {d mi : Nat} {as : List Value} {σ : Mem} {q q' : Int32 → Mem → Prop} (h : Ci Θ d mi as σ q) (hq : ∀ x σ', q x σ' → q' x σ') : Ci Θ d mi as σ q' := Cm.mono h (fun r σ' ⟨x, h1, h2⟩ => ⟨x, h1, hq x σ' h2⟩)
theorem Cl.mono {Θ : Th} {d mi : Nat} {as : List Value} {σ : Mem} {q q' : Int64 → Mem → Prop} (h : Cl Θ d mi as σ q) (hq : ∀ x σ', q x σ' → q' x σ') : Cl Θ d mi as σ q' := Cm.mono h (fun r σ' ⟨x, h1, h2⟩ => ⟨x, h1, hq x σ' h2⟩)
theorem Cr.mono {Θ : Th} {d mi : Nat} {as : List Value} {σ : Mem} {q q' : Nat → Mem → Prop} (h : Cr Θ d mi as σ q) (hq : ∀ x σ', q x σ' → q' x σ') : Cr Θ d mi as σ q' := Cm.mono h (fun r σ' ⟨x, h1, h2⟩ => ⟨x, h1, hq x σ' h2⟩)
theorem Cv.mono {Θ : Th} {d mi : Nat} {as : List Value} {σ : Mem} {q q' : Mem → Prop} (h : Cv Θ d mi as σ q) (hq : ∀ σ', q σ' → q' σ') : Cv Θ d mi as σ q' := Cm.mono h (fun r σ' ⟨h1, h2⟩ => ⟨h1, hq σ' h2⟩)
