/-! CONSTRUCTORS: rows over a world W0 ++ l0 of which l0 is written out -/
def tysC (cy : Nat → ClassId) : List (ClassId × FieldType) := [(cy 0, .int), (cy 1, .long), (cy 2, .byte), (cy 3, .boolean), (cy 4, .object "LikeYears$Book")]
def nestL : List Cond := [.methodLinkNest "LikeYears" 11 yX10_init "LikeYears", .methodLinkNest "LikeYears" 18 yX8_init "LikeYears", .methodLinkNest "LikeYears" 34 yX1_init "LikeYears", .methodLinkNest "LikeYears" 64 yX0_init "LikeYears", .methodLinkNest "LikeYears" 74 yX4_init "LikeYears", .methodLinkNest "LikeYears$Nearest" 24 yX5_init "LikeYears", .methodLinkNest "LikeYears" 89 yX3_init "LikeYears", .methodLinkNest "LikeYears" 96 yX9_init "LikeYears", .methodLinkNest "LikeYears$Parting" 11 yX5_init "LikeYears", .methodLinkNest "LikeYears" 103 yX5_init "LikeYears"]
def NW (U : State) : Prop := (∀ w ∈ nestL, va_Nw w U) ∧ va_AO "LikeYears$Book" U
theorem nest_cases {w : Cond} (h : w ∈ nestL) : ∃ (a : String) (i : Nat) (x : MethodName) (b : String), w = .methodLinkNest a i x b := by
  simp only [nestL, List.mem_cons, List.not_mem_nil, or_false] at h
  rcases h with h | h | h | h | h | h | h | h | h | h <;> exact ⟨_, _, _, _, h⟩
theorem NW.warm {s U : State} (hW : s.WarmedH U.vm) (h : NW s) : NW U := ⟨fun w hw => by
  obtain ⟨a, i, x, b, rfl⟩ := nest_cases hw
  exact va_Nw.warmM hW (h.1 _ hw), va_AO.moved hW.alike h.2⟩
theorem NW.same {s U : State} (hv : s.vm = U.vm) (h : NW s) : NW U := ⟨fun w hw => by
  obtain ⟨a, i, x, b, rfl⟩ := nest_cases hw
  exact va_Nw.same rfl hv (h.1 _ hw), va_AO.moved (by rw [hv]; exact Vm.Alike.refl _) h.2⟩
def Pk (D : va_G) (cy : Nat → ClassId) (A : Nat → Prop) (as : List Value) (ws : va_W) : Array Value → State → Prop :=
  va_Pc as (fun U => va_K D clss (tysC cy) U ∧ va_P D clss ws U.heap ∧ va_D A ws ∧ (∀ q, U.heap.size ≤ q → A q) ∧ NW U)
def Qk (D : va_G) (A : Nat → Prop) (Φ : va_W → Prop) : Array Value → State → Outcome → State → Prop := fun _ st oc t =>
  oc = .returned none ∧ ∃ w, Φ w ∧ va_P D clss w t.heap ∧ va_D A w ∧ va_F A st t
theorem Pk_blind {D : va_G} {cy : Nat → ClassId} {A : Nat → Prop} {as : List Value} {ws : va_W} : FrameBlind (Pk D cy A as ws) := by
  intro a U g mk q
  obtain ⟨q0, q1, q2, q3, q4, q5⟩ := q
  exact ⟨q0, va_K.moved (u := U) (Vm.Alike.refl U.vm) q1, q2, q3, q4, NW.same (s := U) rfl q5⟩
def rmc (d mc ms : Nat) : Room := { frames := d, cells := mc, slots := ms, locals := 64 * d }
theorem z_at {W0 l0 : va_W} {i : Nat} {q : Nat × va_E} (h : l0[i]? = some q) : (W0 ++ l0)[W0.length + i]? = some q := by
  rw [List.getElem?_append_right (Nat.le_add_right _ _), Nat.add_sub_cancel_left]; exact h
theorem z_set {W0 l0 : va_W} {i : Nat} {q : Nat × va_E} : (W0 ++ l0).set (W0.length + i) q = W0 ++ l0.set i q := by
  rw [List.set_append_right _ _ (Nat.le_add_right _ _), Nat.add_sub_cancel_left]
section zrows
variable {p : Program} {l : Launch} {e : Env} {R : Room} {s : State} {m : MethodId} {args : Array Value} {below : List Frame} {meth : Method} {c : Code} {H : Heap} {locs : List Loc} {cells slots : Nat} {Q : State → Prop} {pc : Nat} {ls : Array Slot} {rest : List Value} {D : va_G} {A : Nat → Prop} {W0 l0 : va_W} {cc : ByteArray} {cy : Nat → ClassId}
theorem z_put (hexec : p.tables.exec = Jvm.exec) (hb : c.code = cc) {own : String} {ci k index a i : Nat} {fs : List Value} {v : Value} (hts : ∀ w ∈ gt, w.before args s = true) (hown : s.vm.findClass own = some m.cls) (hK : va_K D clss (tysC cy) s) (hP : va_P D clss (W0 ++ l0) H) (hD : va_D A (W0 ++ l0)) (hS : va_S A s.heap H locs)
    (hci : ci < 13) (hk : k < (clss.getD ci (RX0, TX0, 0)).2.2) (he : l0[i]? = some (a, .inr (ci, fs))) (hlw : Cond.fieldLink own index (tOf ci k).1 (tOf ci k).2.1 (tOf ci k).2.2.1 ∈ gt) (hin2 : meth.name = "<init>") (hdecl : (tOf ci k).1 = own) (hn : narrow (tyOf ci k) v = v) (hfit : fits (tyOf ci k) v = true) (hl : k < fs.length) (hdg : decode cc pc = .ok (.putfield index, 3))
    (kk : ∀ (H1 : Heap) (locs1 : List Loc), va_P D clss (W0 ++ l0.set i (a, .inr (ci, fs.set k v))) H1 → va_D A (W0 ++ l0.set i (a, .inr (ci, fs.set k v))) → va_S A s.heap H1 locs1 → W p l e R s m args below meth c H1 locs1 cells slots Q (F0 m (pc + 3) ls rest)) : W p l e R s m args below meth c H locs cells slots Q (F0 m pc ls (v :: .ref a :: rest)) := by
  by_cases hf : (tOf ci k).2.2.2 = true
  · exact va_putF hexec hb hts (cls_ws hci) (tyOf ci) (cls_ty hci) (cls_nm hci) hown hK hP hD hS (W0.length + i) (z_at he) (cls_at hci) k hk (hts _ hlw) (fun x h => h) hf hin2 hdecl (cls_ty hci k hk) hn hfit hl hdg (fun H1 locs1 h1 h2 h3 => kk H1 locs1 (by rw [← z_set]; exact h1) (by rw [← z_set]; exact h2) h3)
  · exact va_put hexec hb hts (cls_ws hci) (tyOf ci) (cls_ty hci) (cls_nm hci) hown hK hP hD hS (W0.length + i) (z_at he) (cls_at hci) k hk (hts _ hlw) (fun x h => h) (by simpa using hf) (cls_ty hci k hk) hn hfit hl hdg (fun H1 locs1 h1 h2 h3 => kk H1 locs1 (by rw [← z_set]; exact h1) (by rw [← z_set]; exact h2) h3)
theorem z_get (hexec : p.tables.exec = Jvm.exec) (hb : c.code = cc) {own : String} {ci k index a i : Nat} {fs : List Value} {v : Value} (hts : ∀ w ∈ gt, w.before args s = true) (hown : s.vm.findClass own = some m.cls) (hK : va_K D clss (tysC cy) s) (hP : va_P D clss (W0 ++ l0) H)
    (hci : ci < 13) (hk : k < (clss.getD ci (RX0, TX0, 0)).2.2) (he : l0[i]? = some (a, .inr (ci, fs))) (hlw : Cond.fieldLink own index (tOf ci k).1 (tOf ci k).2.1 (tOf ci k).2.2.1 ∈ gt) (hv : fs[k]? = some v) (hdg : decode cc pc = .ok (.getfield index, 3))
    (kk : W p l e R s m args below meth c H locs cells slots Q (F0 m (pc + 3) ls (v :: rest))) : W p l e R s m args below meth c H locs cells slots Q (F0 m pc ls (.ref a :: rest)) :=
  va_get hexec hb hts (cls_ws hci) hown hK hP (W0.length + i) (z_at he) (cls_at hci) k hk (hts _ hlw) (fun x h => h) hv hdg kk
theorem z_new (hexec : p.tables.exec = Jvm.exec) (hb : c.code = cc) {own : String} {ci index : Nat} {fs : List Value} (hts : ∀ w ∈ gt, w.before args s = true) (hown : s.vm.findClass own = some m.cls) (hK : va_K D clss (tysC cy) s) (hP : va_P D clss (W0 ++ l0) H) (hD : va_D A (W0 ++ l0)) (hS : va_S A s.heap H locs) (hA : ∀ q, s.heap.size ≤ q → A q)
    (hci : ci < 13) (hcl : Cond.classLink own index (clss.getD ci (RX0, TX0, 0)).1 ∈ gt) (hinst : Cond.instantiable (clss.getD ci (RX0, TX0, 0)).1 (clss.getD ci (RX0, TX0, 0)).2.2 ∈ gt) (hini : Cond.initialized (clss.getD ci (RX0, TX0, 0)).1 ∈ gt) (hfs : ∀ j, j < (clss.getD ci (RX0, TX0, 0)).2.2 → defaultValue (tyOf ci j) = vp_V fs j) (hcells : cells + 1 ≤ R.cells) (hslots : slots + (clss.getD ci (RX0, TX0, 0)).2.2 ≤ R.slots) (hdg : decode cc pc = .ok (.new index, 3))
    (kk : ∀ (q : Nat) (H1 : Heap), va_P D clss (W0 ++ (l0 ++ [(q, .inr (ci, fs))])) H1 → va_D A (W0 ++ (l0 ++ [(q, .inr (ci, fs))])) → va_S A s.heap H1 locs → W p l e R s m args below meth c H1 locs (cells + 1) (slots + (clss.getD ci (RX0, TX0, 0)).2.2) Q (F0 m (pc + 3) ls (.ref q :: rest))) : W p l e R s m args below meth c H locs cells slots Q (F0 m pc ls rest) :=
  va_new hexec hb hts (cls_ws hci) (tyOf ci) (cls_ty hci) hown (hts _ hcl) (hts _ hinst) (hts _ hini) hK hP hD hS hA (cls_at hci) hfs hcells hslots hdg (fun q H1 h1 h2 h3 => kk q H1 (by rw [← List.append_assoc]; exact h1) (by rw [← List.append_assoc]; exact h2) h3)
theorem z_newa (hexec : p.tables.exec = Jvm.exec) (hb : c.code = cc) {atype : ArrayType} {ty : FieldType} {t0 : Nat} {n : Int32} {N' : Nat} {a0 : vp_A} (hts : ∀ w ∈ gt, w.before args s = true) (harr : Cond.arrayClass (newarray.typeOf atype) ∈ gt) (hty : newarray.typeOf atype = ty) (ht0 : (tysC cy)[t0]? = some (cy t0, ty)) (hnobj : ∀ C, ty ≠ .object C) (hK : va_K D clss (tysC cy) s) (hP : va_P D clss (W0 ++ l0) H) (hD : va_D A (W0 ++ l0)) (hS : va_S A s.heap H locs) (hA : ∀ q, s.heap.size ≤ q → A q)
    (ha : ∀ cA : ClassId, vp_cell cA a0 = arrV cA N' (fun _ => defaultValue ty)) (hn : ¬ n < 0) (hN : n.toNatClampNeg = N') (hbytes : N' * componentBytes ty ≤ 536870912) (hcells : cells + 1 ≤ R.cells) (hslots : slots + N' ≤ R.slots) (hdg : decode cc pc = .ok (.newarray atype, 2))
    (kk : ∀ (q : Nat) (H1 : Heap), va_P D clss (W0 ++ (l0 ++ [(q, .inl (cy t0, a0))])) H1 → va_D A (W0 ++ (l0 ++ [(q, .inl (cy t0, a0))])) → va_S A s.heap H1 locs → W p l e R s m args below meth c H1 locs (cells + 1) (slots + N') Q (F0 m (pc + 2) ls (.ref q :: rest))) : W p l e R s m args below meth c H locs cells slots Q (F0 m pc ls (.int n :: rest)) := by
  refine va_newa hexec hb (hts _ harr) hty hK hP hD hS hA ha hn hN hbytes hcells hslots hdg (fun q cA H1 hK1 h1 h2 h3 => ?_)
  have hr := (hK1.2 (tysC cy).length (cA, ty) (by rw [List.getElem?_append_right (Nat.le_refl _), Nat.sub_self]; rfl)).2
  have hr0 := (hK.2 t0 (cy t0, ty) ht0).2
  have e1 : cA = cy t0 := by
    cases ty with
    | object C => exact absurd rfl (hnobj C)
    | _ => exact Option.some.inj (Eq.trans (Eq.symm hr) hr0)
  subst e1
  exact kk q H1 (by rw [← List.append_assoc]; exact h1) (by rw [← List.append_assoc]; exact h2) h3
theorem z_newq (hexec : p.tables.exec = Jvm.exec) (hb : c.code = cc) {own : String} {index : Nat} {n : Int32} {N' : Nat} (hts : ∀ w ∈ gt, w.before args s = true) (hown : s.vm.findClass own = some m.cls) (hcl : Cond.classLink own index "LikeYears$Book" ∈ gt) (hover : va_AO "LikeYears$Book" s) (hK : va_K D clss (tysC cy) s) (hP : va_P D clss (W0 ++ l0) H) (hD : va_D A (W0 ++ l0)) (hS : va_S A s.heap H locs) (hA : ∀ q, s.heap.size ≤ q → A q)
    (hn : ¬ n < 0) (hN : n.toNatClampNeg = N') (hbytes : N' * 4 ≤ 536870912) (hcells : cells + 1 ≤ R.cells) (hslots : slots + N' ≤ R.slots) (hdg : decode cc pc = .ok (.anewarray index, 3))
    (kk : ∀ (q : Nat) (H1 : Heap), va_P D clss (W0 ++ (l0 ++ [(q, .inl (cy 4, N', .inr (.inr (.inr (.inr (fun _ => none))))))])) H1 → va_D A (W0 ++ (l0 ++ [(q, .inl (cy 4, N', .inr (.inr (.inr (.inr (fun _ => none))))))])) → va_S A s.heap H1 locs → W p l e R s m args below meth c H1 locs (cells + 1) (slots + N') Q (F0 m (pc + 3) ls (.ref q :: rest))) : W p l e R s m args below meth c H locs cells slots Q (F0 m pc ls (.int n :: rest)) := by
  refine va_newq hexec hb hown (hts _ hcl) hover hK hP hD hS hA hn hN hbytes hcells hslots hdg (fun q cA H1 hK1 h1 h2 h3 => ?_)
  obtain ⟨kA, comp, -, -, -, e1⟩ := (hK1.2 (tysC cy).length (cA, .object "LikeYears$Book") (by rw [List.getElem?_append_right (Nat.le_refl _), Nat.sub_self]; rfl)).2
  obtain ⟨kA', comp', -, -, -, e2⟩ := (hK.2 4 (cy 4, .object "LikeYears$Book") rfl).2
  have e3 : cA = cy 4 := Option.some.inj (e1.symm.trans e2)
  subst e3
  exact kk q H1 (by rw [← List.append_assoc]; exact h1) (by rw [← List.append_assoc]; exact h2) h3
theorem z_astq (hexec : p.tables.exec = Jvm.exec) (hb : c.code = cc) {i0 iv a v n : Nat} {vs : List Value} {f : Nat → Option Nat} {i : Int32} (hK : va_K D clss (tysC cy) s) (hP : va_P D clss (W0 ++ l0) H) (hD : va_D A (W0 ++ l0)) (hS : va_S A s.heap H locs) (ha : l0[i0]? = some (a, .inl (cy 4, n, .inr (.inr (.inr (.inr f)))))) (hv : l0[iv]? = some (v, .inr (1, vs))) (hin : vp_in i n) (hdg : decode cc pc = .ok (.aastore, 1))
    (kk : ∀ (H1 : Heap) (locs1 : List Loc), va_P D clss (W0 ++ l0.set i0 (a, .inl (cy 4, n, .inr (.inr (.inr (.inr (va_up f i.toNatClampNeg (some v)))))))) H1 → va_D A (W0 ++ l0.set i0 (a, .inl (cy 4, n, .inr (.inr (.inr (.inr (va_up f i.toNatClampNeg (some v)))))))) → va_S A s.heap H1 locs1 → W p l e R s m args below meth c H1 locs1 cells slots Q (F0 m (pc + 1) ls rest)) : W p l e R s m args below meth c H locs cells slots Q (F0 m pc ls (.ref v :: .int i :: .ref a :: rest)) :=
  va_astq hexec hb hK hP hD hS (W0.length + i0) 4 (W0.length + iv) 1 (z_at ha) rfl (z_at hv) (cls_at (by decide)) hin hdg (fun H1 locs1 h1 h2 h3 => kk H1 locs1 (by rw [← z_set]; exact h1) (by rw [← z_set]; exact h2) h3)
/-- a constructor is called: its cells come behind -/
theorem z_call {Φ : va_W → Prop} {mc ms : Nat} {st0 : List Value} {a : Array Value} (hrun : va_Run p l e R s m args below meth c H locs cells slots mc ms (F0 m pc ls st0) rest (Qk D A Φ a) A) (hS : va_S A s.heap H locs)
    (kk : ∀ (w : va_W) (H1 : Heap) (locs1 : List Loc), Φ w → va_P D clss w H1 → va_D A w → va_S A s.heap H1 locs1 → W p l e R s m args below meth c H1 locs1 (cells + mc) (slots + ms) Q (F0 m (pc + 3) ls rest)) : W p l e R s m args below meth c H locs cells slots Q (F0 m pc ls st0) := by
  intro T hT X
  obtain ⟨v, st₀, t, T', L', h0, X', hL, e1, e2, ⟨hv, w, hΦ, hP1, hD1, hz, hk⟩, st⟩ := hrun T hT X
  cases hv
  rw [h0] at hz hk
  have hS1 : va_S A s.heap T'.heap (locs ++ L') := ⟨Nat.le_trans hS.1 (by rw [e1]; exact hz), fun q h1 h2 => by rw [e1, hk q (Nat.lt_of_lt_of_le h1 hS.1) h2]; exact hS.2.1 q h1 h2, fun q hq => by
    rcases List.mem_append.mp hq with h | h
    · exact hS.2.2 q h
    · exact hL q h⟩
  obtain ⟨t2, a1, b1⟩ := kk w T'.heap (locs ++ L') hΦ (by rw [e1]; exact hP1) hD1 hS1 T' rfl X'
  exact ⟨t2, st t2 a1, b1⟩
end zrows
