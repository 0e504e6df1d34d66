/-! THE LAW: from its entry to its end -/
def R_law : String := "LikeYearsLaw"
def lw_P (b : Addr) (xs : List Int32) (args : Array Value) (s : State) : Prop := args = #[.ref b] ∧ s.IntsAt b xs ∧ xs.length ≤ 3072 ∧ (Jvm.Cond.and given_1 narrow_1).before args s = true
def lw_Q (_ : Array Value) (s : State) (o : Outcome) (t : State) : Prop := o = .returned (some (.int 1)) ∧ Framed s o t [] 600000 7302250
def lw_Z (below : List Frame) (a : Array Value) (s : State) : State → Prop := fun t => ∃ o, t.status = .running ∧ Ended t below o ∧ lw_Q a s o t
/-- the law's own end, with 1 on the stack, nothing written that was there before, its room as the claim has it -/
theorem lw_ret {p : Program} {l : Launch} {e : Env} {s : State} {m : MethodId} {below : List Frame} {meth : Method} {c : Code} {b : Nat} (hx : p.tables.exec = Jvm.exec) (hb : c.code = code) (hr : meth.sig.returnType = ret) (hlocks : meth.locks = false) {pc : Nat} {H : Heap} {ls : Array Slot} (hdg : decode code pc = .ok (.ireturn, 1)) : W p l e room_1 s m #[Value.ref b] below meth c H [] 600000 7302250 (lw_Z below #[Value.ref b] s) (F0 m pc ls [.int 1]) := by
  intro T hT X
  obtain ⟨fs, hret, hrun, hended, hW, hframe⟩ := X.leave (v := some (.int 1)) (hlocks := hlocks) (fun h => by rw [hr] at h; cases h)
  have hmeth' : T.vm.method? m = some meth := X.method'
  refine ⟨T.setFrames fs, ?_, .returned (some (.int 1)), hrun, hended, rfl, ⟨_, rfl⟩, hW, hframe⟩
  jvm_step X.here [X.here.top, hx, hb, hdg, hmeth', hr, ret, narrow_b1]
  (try refine ⟨rfl, ?_⟩); (try refine ⟨rfl, ?_⟩)
  first | (intro acts; rw [hret _ acts rfl rfl rfl]) | rw [hret _ _ rfl rfl rfl]
  exact Steps.refl _
/-- what holds at the law's entry: the machine, the code, the tables' words (any of lw_tbl by 'hts w (by decide +kernel)'), the script of L ints xs at the cell b, what the Statement gives of the start (any of its parts by flat_of_before) -/
def lw_At (p : Program) (s : State) (m : MethodId) (meth : Method) (c : Code) (b L : Nat) (xs : Nat → Int32) : Prop :=
  p.tables.exec = Jvm.exec ∧ c.code = code ∧ meth.sig.returnType = ret ∧ c.maxLocals = 4 ∧ s.vm.findClass R_law = some m.cls ∧ (∀ w ∈ lw_tbl, w.before #[Value.ref b] s = true) ∧ va_X b L xs s s.heap ∧ b < s.heap.size ∧ meth.locks = false ∧ (Jvm.Cond.and given_1 narrow_1).before #[Value.ref b] s = true
theorem whole_start {p : Program} {e : Env} {s : State} {m : MethodId} {below : List Frame} {meth : Method} {c : Code} (l : Launch) (hflags : l.flags = flags0) {b L : Nat} {xs : Nat → Int32} (hL : L ≤ 3072) (C0 : lw_At p s m meth c b L xs) : W p l e room_1 s m #[Value.ref b] below meth c s.heap [] 0 0 (lw_Z below #[Value.ref b] s) (entryFrame m ([Value.ref b] : List Value).toArray 4) := by
  obtain ⟨hx, hbd, hr, hml, hown, hts, hX, hbl, hlocks, hgv⟩ := C0
  have hb : c.code = mby 294 := hbd
  obtain ⟨D, cy, hK⟩ := k_first hts
  have hN := nw_first hts
  obtain ⟨nn, st, sv, e1, e2, e3, e4, e5⟩ := env_first hts hgv (A := fun q => s.heap.size ≤ q) (fun a ha => by omega)
  refine walk_first (A := fun q => s.heap.size ≤ q) nn st sv s.heap.size hx hb hml hown hts hK hN (fun q hq => hq) ?_
  intro La H locs ls cells slots hcs hP hD hS hl
  have hI : Lin (l, D, adF La b nn st sv s.heap.size, cy, L, xs) := lin_first hD (fun q hq => hq)
  have hP := P_first l D cy L xs _ hP
  have hg : G (l, D, adF La b nn st sv s.heap.size, cy, L, xs) 151 294 18 [some (.ref 1000), some (.ref 0), some (.ref 124), some (.int (nI (6 * 0)))] [] mem0 (fun r _ => r = some (.int 1)) := law_go (show L < 2147483648 by omega) (fun σ => rfl) (L + 1) 0 mem0 st0 (show L < 6 * (0 + (L + 1)) + 6 by omega) (by omega) ok_st0 rc_st0 rr_st0
  have hcx : Cx 151 294 p room_1 s m #[Value.ref b] c := ⟨hx, hb, hml, hown, fun w hw => hts w (gt_in hw), by decide, by decide⟩
  refine hg p e room_1 s m #[Value.ref b] below meth c H locs cells slots _ ls hcx hcs ⟨hK, hI, ⟨hX, hbl, fun z => Nat.lt_irrefl _ (Nat.lt_of_lt_of_le hbl z)⟩, e1, e2, e3, e4, e5⟩ hP hS ⟨hl.1, hl.2.1, fun i v hv => ?_⟩ ?_
  · match i with
    | 0 => obtain rfl := Option.some.inj hv; exact lv_at hl 3 rfl
    | 1 => obtain rfl := Option.some.inj hv; exact lv_at hl 2 rfl
    | 2 => obtain rfl := Option.some.inj hv; exact lv_at hl 1 rfl
    | 3 => obtain rfl := Option.some.inj hv; exact lv_at hl 0 rfl
    | i + 4 => cases hv
  · intro pc' ls' H' locs' r σ' hQ hP' hS' hret
    obtain rfl := hQ
    have hdg : decode code pc' = .ok (.ireturn, 1) := by
      rcases hret with ⟨v, h1, h2, h3⟩ | ⟨v, h1, h2, h3⟩ | ⟨k, n, h1, h2, h3⟩ | ⟨h1, h2, h3⟩
      · exact h2
      · cases h1
      · cases h1
      · cases h1
    exact va_forget (fun q hq => hS'.2.2 q hq) (W.widen hcs.1 hcs.2 (lw_ret hx hbd hr hlocks hdg))
