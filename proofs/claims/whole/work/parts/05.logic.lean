/-! G and Cm -/
def mby (mi : Nat) : ByteArray := (mrow mi).2.1
def mml (mi : Nat) : Nat := (mrow mi).2.2.1
def mrt (mi : Nat) : Option FieldType := (mrow mi).2.2.2.1
def moc (mi : Nat) : Nat := (mrow mi).2.2.2.2.1
def mnp (mi : Nat) : Nat := (mrow mi).2.2.2.2.2.1
def mst (mi : Nat) : Bool := (mrow mi).2.2.2.2.2.2.1
def Cx (d mi : Nat) (p : Program) (R : Room) (s : State) (m : MethodId) (args : Array Value) (c : Code) : Prop :=
  p.tables.exec = Jvm.exec ∧ c.code = mby mi ∧ c.maxLocals = mml mi ∧ s.vm.findClass (cnm (moc mi)) = some m.cls ∧ (∀ w ∈ gt, w.before args s = true) ∧ d ≤ R.frames ∧ 64 * d ≤ R.locals
def RetAt (mi pc : Nat) (r : Option Value) : Prop :=
  (∃ v, r = some (.int v) ∧ decode (mby mi) pc = .ok (.ireturn, 1) ∧ (mrt mi = some .int ∨ (mrt mi = some .boolean ∧ (v = 0 ∨ v = 1)) ∨ (mrt mi = some .byte ∧ v = 0))) ∨
  (∃ v, r = some (.long v) ∧ decode (mby mi) pc = .ok (.lreturn, 1) ∧ mrt mi = some .long) ∨
  (∃ k n, r = some (.ref k) ∧ decode (mby mi) pc = .ok (.areturn, 1) ∧ mrt mi = some (.object n)) ∨
  (r = none ∧ decode (mby mi) pc = .ok (.return_, 1) ∧ mrt mi = none)
def G (Θ : Th) (d mi pc : Nat) (L : Lc) (S : List Value) (σ : Mem) (Q : Po) : Prop :=
  ∀ (p : Program) (e : Env) (R : Room) (s : State) (m : MethodId) (args : Array Value) (below : List Frame) (meth : Method) (c : Code) (H : Heap) (locs : List Loc) (cells slots : Nat) (QQ : State → Prop) (ls : Array Slot),
    Cx d mi p R s m args c → cells ≤ R.cells ∧ slots ≤ R.slots → Ws Θ s → va_P Θ.2.1 clss (cel Θ σ) H → va_S (AA Θ) s.heap H locs → LR Θ (mml mi) L ls →
    (∀ (pc' : Nat) (ls' : Array Slot) (H' : Heap) (locs' : List Loc) (r : Option Value) (σ' : Mem), Q r σ' → va_P Θ.2.1 clss (cel Θ σ') H' → va_S (AA Θ) s.heap H' locs' → RetAt mi pc' r →
      W p Θ.1 e R s m args below meth c H' locs' cells slots QQ (F0 m pc' ls' ((r.map (vv Θ)).toList))) →
    W p Θ.1 e R s m args below meth c H locs cells slots QQ (F0 m pc ls (S.map (vv Θ)))
def wds (mi : Nat) : List Cond := Cond.code (mrow mi).1 (mby mi) (mml mi) (mrt mi) :: gt
def rmd (d : Nat) : Room := { frames := d, cells := 0, slots := 0, locals := 64 * d }
def Cm (Θ : Th) (d mi : Nat) (as : List Value) (σ : Mem) (Q : Po) : Prop :=
  Met Θ.1 (mrow mi).1 (wds mi) (rmd d) (va_Pc (as.map (vv Θ)) (fun U => Ws Θ U ∧ va_P Θ.2.1 clss (cel Θ σ) U.heap))
    (fun _ st oc t => ∃ (r : Option Value) (σ' : Mem), oc = .returned (r.map (vv Θ)) ∧ Q r σ' ∧ va_P Θ.2.1 clss (cel Θ σ') t.heap ∧ va_F (AA Θ) st t) 0 0 (AA Θ)
theorem Met_mono {l : Launch} {y : MethodName} {ws : List Cond} {rm : Room} {Pc : Array Value → State → Prop} {Qc Qc' : Array Value → State → Outcome → State → Prop} {mc ms : Nat} {free : Addr → Prop} (h : Met l y ws rm Pc Qc mc ms free) (hq : ∀ a st o t, Qc a st o t → Qc' a st o t) : Met l y ws rm Pc Qc' mc ms free := by
  intro p e ha hc hk s m args below hf happ hP hT
  obtain ⟨k, o, h1, h2, h3, h4, h5⟩ := h p e ha hc hk s m args below hf happ hP hT
  exact ⟨k, o, h1, h2, h3, hq _ _ _ _ h4, h5⟩
theorem Cm.mono {Θ : Th} {d mi : Nat} {as : List Value} {σ : Mem} {Q Q' : Po} (h : Cm Θ d mi as σ Q) (hq : ∀ r σ', Q r σ' → Q' r σ') : Cm Θ d mi as σ Q' :=
  Met_mono h (fun a st o t ⟨r, σ', h1, h2, h3⟩ => ⟨r, σ', h1, hq r σ' h2, h3⟩)
theorem G.mono {Θ : Th} {d mi pc : Nat} {L : Lc} {S : List Value} {σ : Mem} {Q Q' : Po} (h : G Θ d mi pc L S σ Q) (hq : ∀ r σ', Q r σ' → Q' r σ') : G Θ d mi pc L S σ Q' := by
  intro p e R s m args below meth c H locs cells slots QQ ls hC hroom hw hP hS hl hret
  exact h p e R s m args below meth c H locs cells slots QQ ls hC hroom hw hP hS hl (fun pc' ls' H' locs' r σ' q => hret pc' ls' H' locs' r σ' (hq r σ' q))
theorem G.weak {Θ : Th} {d mi pc : Nat} {L L' : Lc} {S : List Value} {σ : Mem} {Q : Po} (hL : LE L' L) (h : G Θ d mi pc L' S σ Q) : G Θ d mi pc L S σ Q := by
  intro p e R s m args below meth c H locs cells slots QQ ls hC hroom hw hP hS hl hret
  exact h p e R s m args below meth c H locs cells slots QQ ls hC hroom hw hP hS ⟨hl.1, hl.2.1, fun i v hg => hl.2.2 i v (LE_get L' L hL i v hg)⟩ hret
/-! words of the tables -/
theorem chk_at {mi : Nat} {mc : List (Nat × Ins)} (hok : mc.all (fun q => chkI mi q.1 q.2) = true) {j : Nat} {q : Nat × Ins} (hi : mc[j]? = some q) : chkI mi q.1 q.2 = true :=
  List.all_eq_true.mp hok q (List.mem_of_getElem? hi)
theorem dec_at {mi : Nat} {mc : List (Nat × Ins)} (hok : mc.all (fun q => chkI mi q.1 q.2) = true) {j pc nx n : Nat} {i : Instr} {u : Nat × Nat × Int} (hi : mc[j]? = some (pc, i, nx, u)) (hn : pc + n = nx) : decode (mby mi) pc = .ok (i, n) := by
  have h := chk_at hok hi
  simp only [chkI, Bool.and_eq_true, decide_eq_true_eq] at h
  have h2 := h.1.2
  rw [← hn, Nat.add_sub_cancel_left] at h2
  exact h2
