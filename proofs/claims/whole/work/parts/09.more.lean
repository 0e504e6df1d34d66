/-! ROWS of the logic: switches, the static array, copies, typed calls -/
def TS (P : Nat → Prop) (x : Int) : Int → List Nat → Prop
  | _, [] => True
  | lo, [t] => (x = lo → P t)
  | lo, t :: t2 :: ts => (x = lo → P t) ∧ TS P x (lo + 1) (t2 :: ts)
theorem TS_at (P : Nat → Prop) (x : Int) : ∀ (tl : List Nat) (lo : Int), TS P x lo tl → ∀ (q t : Nat), tl[q]? = some t → x = lo + q → P t
  | [], _, _, q, t, h, _ => by simp at h
  | [a], lo, hT, q, t, h, hx => by
    match q, h with
    | 0, h => cases h; exact hT (by rw [hx]; simp)
    | q + 1, h => simp at h
  | a :: b :: tl, lo, hT, q, t, h, hx => by
    match q, h with
    | 0, h => cases h; exact hT.1 (by rw [hx]; simp)
    | q + 1, h => exact TS_at P x (b :: tl) (lo + 1) hT.2 q t h (by rw [hx]; push_cast; omega)
section more
variable {Θ : Th} {d mi pc nx : Nat} {mc : List (Nat × Ins)} {L : Lc} {S S0 : List Value} {σ : Mem} {Q : Po} {u : Nat × Nat × Int}
theorem r_tsw {dflt lo hi' : Int} {offs : Array Int} {x : Int32} {t0 : Nat} {tl : List Nat} (hok : mc.all (fun q => chkI mi q.1 q.2) = true) (j : Nat) (hi : mc[j]? = some (pc, .tableswitch dflt lo hi' offs, nx, u)) (ht0 : (pc : Int) + dflt = (t0 : Int)) (htl : offs.toList.map (fun o => (pc : Int) + o) = tl.map (fun (t : Nat) => (t : Int))) (hsz : hi' - lo + 1 = (tl.length : Int))
    (kd : (x.toInt < lo ∨ hi' < x.toInt) → G Θ d mi t0 L S σ Q) (k : TS (fun t => G Θ d mi t L S σ Q) x.toInt lo tl) : G Θ d mi pc L (.int x :: S) σ Q := by
  intro p e R s m args below meth c H locs cells slots QQ ls hC hroom hw hP hS hl hret
  have hc := chk_at hok hi
  simp only [chkI, Bool.and_eq_true, decide_eq_true_eq] at hc
  have hd := hc.1.2
  by_cases hx : x.toInt < lo ∨ hi' < x.toInt
  · exact lv_tableOut hC.1 hC.2.1 hd hx ht0 (kd hx p e R s m args below meth c H locs cells slots QQ ls hC hroom hw hP hS hl hret)
  · have h1 : ¬ x.toInt < lo := fun h => hx (Or.inl h)
    have h2 : ¬ hi' < x.toInt := fun h => hx (Or.inr h)
    have hq : (x.toInt - lo).toNat < tl.length := by omega
    have hlen : offs.toList.length = tl.length := by
      have := congrArg List.length htl
      simpa using this
    have hqo : (x.toInt - lo).toNat < offs.toList.length := by rw [hlen]; exact hq
    have hg : (pc : Int) + offs.toList[(x.toInt - lo).toNat] = (tl[(x.toInt - lo).toNat] : Int) := by
      have h3 : (offs.toList.map (fun o => (pc : Int) + o))[(x.toInt - lo).toNat]? = (tl.map (fun (t : Nat) => (t : Int)))[(x.toInt - lo).toNat]? := by rw [htl]
      rw [List.getElem?_map, List.getElem?_map, List.getElem?_eq_getElem hqo, List.getElem?_eq_getElem hq] at h3
      exact Option.some.inj h3
    refine lv_tableIn hC.1 hC.2.1 hd h1 h2 (off := offs.toList[(x.toInt - lo).toNat]) (tgt := tl[(x.toInt - lo).toNat]) (by rw [← Array.getElem?_toList, List.getElem?_eq_getElem hqo]) hg ?_
    exact TS_at _ _ tl lo k _ _ (List.getElem?_eq_getElem hq) (by omega) p e R s m args below meth c H locs cells slots QQ ls hC hroom hw hP hS hl hret
theorem r_lsw2 {dflt k0 k1 o0 o1 : Int} {x : Int32} {t0 t1 t2 : Nat} (hok : mc.all (fun q => chkI mi q.1 q.2) = true) (j : Nat) (hi : mc[j]? = some (pc, .lookupswitch dflt #[(k0, o0), (k1, o1)], nx, u)) (hk : k0 < k1) (ht0 : (pc : Int) + o0 = (t0 : Int)) (ht1 : (pc : Int) + o1 = (t1 : Int)) (ht2 : (pc : Int) + dflt = (t2 : Int))
    (ka : x.toInt = k0 → G Θ d mi t0 L S σ Q) (kb : x.toInt = k1 → G Θ d mi t1 L S σ Q) (kc : ¬ x.toInt = k0 → ¬ x.toInt = k1 → G Θ d mi t2 L S σ Q) : G Θ d mi pc L (.int x :: S) σ Q := by
  intro p e R s m args below meth c H locs cells slots QQ ls hC hroom hw hP hS hl hret
  have hc := chk_at hok hi
  simp only [chkI, Bool.and_eq_true, decide_eq_true_eq] at hc
  have hd := hc.1.2
  have hp : ((#[(k0, o0), (k1, o1)] : Array (Int × Int)).toList.zip ((#[(k0, o0), (k1, o1)] : Array (Int × Int)).toList.drop 1)).all (fun (a, next) => a.1 < next.1) = true := by simp [hk]
  by_cases h0 : x.toInt = k0
  · exact lv_lookup hC.1 hC.2.1 hd hp (off := o0) (by rw [h0]; simp [Op.lookupswitch.offset]) ht0 (ka h0 p e R s m args below meth c H locs cells slots QQ ls hC hroom hw hP hS hl hret)
  · by_cases h1 : x.toInt = k1
    · exact lv_lookup hC.1 hC.2.1 hd hp (off := o1) (by rw [h1]; have : ¬ k0 = k1 := by omega
                                                        simp [Op.lookupswitch.offset, this]) ht1 (kb h1 p e R s m args below meth c H locs cells slots QQ ls hC hroom hw hP hS hl hret)
    · exact lv_lookup hC.1 hC.2.1 hd hp (off := dflt) (by have e0 : ¬ k0 = x.toInt := fun q => h0 q.symm
                                                          have e1 : ¬ k1 = x.toInt := fun q => h1 q.symm
                                                          simp [Op.lookupswitch.offset, e0, e1]) ht2 (kc h0 h1 p e R s m args below meth c H locs cells slots QQ ls hC hroom hw hP hS hl hret)
theorem r_gets (hok : mc.all (fun q => chkI mi q.1 q.2) = true) (j : Nat) (hi : mc[j]? = some (pc, .getstatic 88, nx, u)) (hn : pc + 3 = nx) (hT : cnm (moc mi) = "LikeYears$Tape") (k : G Θ d mi nx L (.ref 1001 :: S) σ Q) : G Θ d mi pc L S σ Q := by
  intro p e R s m args below meth c H locs cells slots QQ ls hC hroom hw hP hS hl hret
  have hd := dec_at hok hi hn
  subst hn
  have hown := hC.2.2.2.1
  rw [hT] at hown
  exact va_getsN hC.1 hC.2.1 hw.2.2.2.1 hS hown (va_Nw.use rfl hw.2.2.2.2.2.1.2) (fun x h => h) hd (k p e R s m args below meth c H locs cells slots QQ ls hC hroom hw hP hS hl hret)
def cpI (σ : Mem) (src : Nat) (sp : Int32) (dst : Nat) (dp n : Int32) : Mem :=
  (fun a b => if a = dst then va_cpy (σ.1 src) (σ.1 dst) sp.toNatClampNeg dp.toNatClampNeg n.toNatClampNeg b else σ.1 a b, σ.2.1, σ.2.2)
theorem ent_cp {src dst : Nat} {sp dp n : Int32} {j : Nat} (h : j ≠ dst) : ent Θ (cpI σ src sp dst dp n) j = ent Θ σ j := by
  have h1 : (cpI σ src sp dst dp n).1 j = σ.1 j := by funext b; simp [cpI, h]
  have h2 : fld Θ (cpI σ src sp dst dp n) j (shq j).1 = fld Θ σ j (shq j).1 := by funext q; simp only [fld, h1]; rfl
  simp only [ent, h1, h2]; rfl
theorem r_copy {idx b src dst n0 n1 : Nat} {z : Int} {sp dp n : Int32} (hok : mc.all (fun q => chkI mi q.1 q.2) = true) (j : Nat) (hi : mc[j]? = some (pc, .invokestatic idx, nx, 9000, b, z)) (hn : pc + 3 = nx) (hs : shq src = (20, n0)) (hs' : shq dst = (20, n1))
    (hlw : lw_tbl[npv + b]? = some (.methodLink (cnm (moc mi)) idx arraycopyName)) (hb : ¬ sp < 0 ∧ ¬ dp < 0 ∧ ¬ n < 0 ∧ sp.toNatClampNeg + n.toNatClampNeg ≤ n0 ∧ dp.toNatClampNeg + n.toNatClampNeg ≤ n1) (hcat : (S.map fun v => v.category).sum ≤ 8)
    (hw1 : Cond.native arraycopyName ∈ gt) (hw2 : Cond.static arraycopyName ∈ gt) (hw3 : Cond.initialized "java/lang/System" ∈ gt)
    (k : G Θ (d + 1) mi nx L S (cpI σ src sp dst dp n) Q) : G Θ (d + 1) mi pc L (.int n :: .int dp :: .ref dst :: .int sp :: .ref src :: S) σ Q := by
  intro p e R s m args below meth c H locs cells slots QQ ls hC hroom hw hP hS hl hret
  have hd := dec_at hok hi hn
  subst hn
  have hts := hC.2.2.2.2.1
  have hnf : nativeFrameWords "java/lang/System" "arraycopy" 5 = 7 := by decide +kernel
  refine va_copyi hC.1 hC.2.1 (by rw [hC.2.2.1, hl.1]) hC.2.2.2.1 (hts _ (gt_at hlw rfl)) (hts _ hw1) (hts _ hw2) (hts _ hw3) hw.1 hP (cel_D hw.2.1 σ) hS src dst 0 0 (by rw [cel_at Θ σ (shp_l hs (by decide)), ent20 hs]) (by rw [cel_at Θ σ (shp_l hs' (by decide)), ent20 hs']) rfl rfl rfl hb.1 hb.2.1 hb.2.2.1 hb.2.2.2.1 hb.2.2.2.2 (fun _ _ => rfl)
    (by have := hC.2.2.2.2.2.1; omega) (by rw [vv_map_cat, hnf]; have := hC.2.2.2.2.2.2; omega) hd (fun H1 locs1 hP1 hD1 hS1 => ?_)
  have he : (cel Θ σ).set dst (Θ.2.2.1 dst, .inl (Θ.2.2.2.1 0, n1, .inl (va_cpy (σ.1 src) (σ.1 dst) sp.toNatClampNeg dp.toNatClampNeg n.toNatClampNeg))) = cel Θ (cpI σ src sp dst dp n) :=
    cel_set (shp_l hs' (by decide)) (by rw [ent20 hs']; congr 4; funext q; simp [cpI]) (fun q hq => ent_cp hq)
  rw [he] at hP1
  exact k p e R s m args below meth c H1 locs1 cells slots QQ ls hC hroom hw hP1 hS1 hl hret
/-- the facts of a callee -/
def MFv (mj ci np : Nat) : Prop := mj < 9000 ∧ chkM mj = true ∧ mst mj = false ∧ moc mj = ci ∧ ci < 13 ∧ (clss.getD ci (RX0, TX0, 0)).1 = cnm ci ∧ mnp mj = np
def MFs (mj np : Nat) : Prop := mj < 9000 ∧ chkM mj = true ∧ mst mj = true ∧ mnp mj = np
theorem r_invVc {idx mj b o ci np : Nat} {z : Int} {as : List Value} {q : Po} (hok : mc.all (fun q => chkI mi q.1 q.2) = true) (j : Nat) (hi : mc[j]? = some (pc, .invokevirtual idx, nx, mj, b, z)) (hn : pc + 3 = nx) (mf : MFv mj ci np) (hso : (shq o).1 = ci) (hlen : as.length = np) (hcat : (S.map fun v => v.category).sum ≤ 8) (hS0 : S0 = as.reverse ++ .ref o :: S)
    (h : Cm Θ d mj (.ref o :: as) σ q) (kk : ∀ r σ', q r σ' → G Θ (d + 1) mi nx L (r.toList ++ S) σ' Q) : G Θ (d + 1) mi pc L S0 σ Q := by
  obtain ⟨m1, m2, m3, m4, m5, m6, m7⟩ := mf
  subst m4
  exact r_invV hok j hi hn m1 m2 m3 hso m5 m6 (by rw [hlen, m7]) hcat hS0 h kk
theorem r_invVi {idx mj b o ci np : Nat} {z : Int} {as : List Value} {q : Int32 → Mem → Prop} (hok : mc.all (fun q => chkI mi q.1 q.2) = true) (j : Nat) (hi : mc[j]? = some (pc, .invokevirtual idx, nx, mj, b, z)) (hn : pc + 3 = nx) (mf : MFv mj ci np) (hso : (shq o).1 = ci) (hlen : as.length = np) (hcat : (S.map fun v => v.category).sum ≤ 8) (hS0 : S0 = as.reverse ++ .ref o :: S)
    (h : Ci Θ d mj (.ref o :: as) σ q) (kk : ∀ x σ', q x σ' → G Θ (d + 1) mi nx L (.int x :: S) σ' Q) : G Θ (d + 1) mi pc L S0 σ Q :=
  r_invVc hok j hi hn mf hso hlen hcat hS0 h (fun r σ' ⟨x, h1, h2⟩ => by subst h1; exact kk x σ' h2)
theorem r_invVl {idx mj b o ci np : Nat} {z : Int} {as : List Value} {q : Int64 → Mem → Prop} (hok : mc.all (fun q => chkI mi q.1 q.2) = true) (j : Nat) (hi : mc[j]? = some (pc, .invokevirtual idx, nx, mj, b, z)) (hn : pc + 3 = nx) (mf : MFv mj ci np) (hso : (shq o).1 = ci) (hlen : as.length = np) (hcat : (S.map fun v => v.category).sum ≤ 8) (hS0 : S0 = as.reverse ++ .ref o :: S)
    (h : Cl Θ d mj (.ref o :: as) σ q) (kk : ∀ x σ', q x σ' → G Θ (d + 1) mi nx L (.long x :: S) σ' Q) : G Θ (d + 1) mi pc L S0 σ Q :=
  r_invVc hok j hi hn mf hso hlen hcat hS0 h (fun r σ' ⟨x, h1, h2⟩ => by subst h1; exact kk x σ' h2)
theorem r_invVr {idx mj b o ci np : Nat} {z : Int} {as : List Value} {q : Nat → Mem → Prop} (hok : mc.all (fun q => chkI mi q.1 q.2) = true) (j : Nat) (hi : mc[j]? = some (pc, .invokevirtual idx, nx, mj, b, z)) (hn : pc + 3 = nx) (mf : MFv mj ci np) (hso : (shq o).1 = ci) (hlen : as.length = np) (hcat : (S.map fun v => v.category).sum ≤ 8) (hS0 : S0 = as.reverse ++ .ref o :: S)
    (h : Cr Θ d mj (.ref o :: as) σ q) (kk : ∀ x σ', q x σ' → G Θ (d + 1) mi nx L (.ref x :: S) σ' Q) : G Θ (d + 1) mi pc L S0 σ Q :=
  r_invVc hok j hi hn mf hso hlen hcat hS0 h (fun r σ' ⟨x, h1, h2⟩ => by subst h1; exact kk x σ' h2)
theorem r_invVv {idx mj b o ci np : Nat} {z : Int} {as : List Value} {q : Mem → Prop} (hok : mc.all (fun q => chkI mi q.1 q.2) = true) (j : Nat) (hi : mc[j]? = some (pc, .invokevirtual idx, nx, mj, b, z)) (hn : pc + 3 = nx) (mf : MFv mj ci np) (hso : (shq o).1 = ci) (hlen : as.length = np) (hcat : (S.map fun v => v.category).sum ≤ 8) (hS0 : S0 = as.reverse ++ .ref o :: S)
    (h : Cv Θ d mj (.ref o :: as) σ q) (kk : ∀ σ', q σ' → G Θ (d + 1) mi nx L S σ' Q) : G Θ (d + 1) mi pc L S0 σ Q :=
  r_invVc hok j hi hn mf hso hlen hcat hS0 h (fun r σ' ⟨h1, h2⟩ => by subst h1; exact kk σ' h2)
theorem r_invSi {idx mj b np : Nat} {z : Int} {as : List Value} {q : Int32 → Mem → Prop} (hok : mc.all (fun q => chkI mi q.1 q.2) = true) (j : Nat) (hi : mc[j]? = some (pc, .invokestatic idx, nx, mj, b, z)) (hn : pc + 3 = nx) (mf : MFs mj np) (hlen : as.length = np) (hcat : (S.map fun v => v.category).sum ≤ 8) (hS0 : S0 = as.reverse ++ S)
    (h : Ci Θ d mj as σ q) (kk : ∀ x σ', q x σ' → G Θ (d + 1) mi nx L (.int x :: S) σ' Q) : G Θ (d + 1) mi pc L S0 σ Q :=
  r_invS hok j hi hn mf.1 mf.2.1 mf.2.2.1 (by rw [hlen, mf.2.2.2]) hcat hS0 h (fun r σ' ⟨x, h1, h2⟩ => by subst h1; exact kk x σ' h2)
theorem r_invSl {idx mj b np : Nat} {z : Int} {as : List Value} {q : Int64 → Mem → Prop} (hok : mc.all (fun q => chkI mi q.1 q.2) = true) (j : Nat) (hi : mc[j]? = some (pc, .invokestatic idx, nx, mj, b, z)) (hn : pc + 3 = nx) (mf : MFs mj np) (hlen : as.length = np) (hcat : (S.map fun v => v.category).sum ≤ 8) (hS0 : S0 = as.reverse ++ S)
    (h : Cl Θ d mj as σ q) (kk : ∀ x σ', q x σ' → G Θ (d + 1) mi nx L (.long x :: S) σ' Q) : G Θ (d + 1) mi pc L S0 σ Q :=
  r_invS hok j hi hn mf.1 mf.2.1 mf.2.2.1 (by rw [hlen, mf.2.2.2]) hcat hS0 h (fun r σ' ⟨x, h1, h2⟩ => by subst h1; exact kk x σ' h2)
theorem r_invSv {idx mj b np : Nat} {z : Int} {as : List Value} {q : Mem → Prop} (hok : mc.all (fun q => chkI mi q.1 q.2) = true) (j : Nat) (hi : mc[j]? = some (pc, .invokestatic idx, nx, mj, b, z)) (hn : pc + 3 = nx) (mf : MFs mj np) (hlen : as.length = np) (hcat : (S.map fun v => v.category).sum ≤ 8) (hS0 : S0 = as.reverse ++ S)
    (h : Cv Θ d mj as σ q) (kk : ∀ σ', q σ' → G Θ (d + 1) mi nx L S σ' Q) : G Θ (d + 1) mi pc L S0 σ Q :=
  r_invS hok j hi hn mf.1 mf.2.1 mf.2.2.1 (by rw [hlen, mf.2.2.2]) hcat hS0 h (fun r σ' ⟨h1, h2⟩ => by subst h1; exact kk σ' h2)
end more
section mathrows
variable {Θ : Th} {d mi pc nx : Nat} {mc : List (Nat × Ins)} {L : Lc} {S : List Value} {σ : Mem} {Q : Po}
def MW (y : MethodName) (cd : ByteArray) (n : Nat) (rt : Option FieldType) : Prop := Cond.static y ∈ gt ∧ Cond.initialized "java/lang/Math" ∈ gt ∧ Cond.code y cd n rt ∈ gt
theorem r_mmax {idx mj b : Nat} {z : Int} {x y : Int32} (hok : mc.all (fun q => chkI mi q.1 q.2) = true) (j : Nat) (hi : mc[j]? = some (pc, .invokestatic idx, nx, mj, b, z)) (hn : pc + 3 = nx) (hy : (mrow mj).1 = Lib.Math.max.name) (h9 : mj < 9000) (hw : MW Lib.Math.max.name Lib.Math.max.code 2 (some .int)) (hcat : (S.map fun v => v.category).sum ≤ 8)
    (k : G Θ (d + 1) mi nx L (.int (if x < y then y else x) :: S) σ Q) : G Θ (d + 1) mi pc L (.int y :: .int x :: S) σ Q := by
  intro p e R s m args below meth c H locs cells slots QQ ls hC hroom hw' hP hS hl hret
  have hd := dec_at hok hi hn
  have hc := chk_at hok hi
  simp only [chkI, Bool.and_eq_true, Bool.or_eq_true, decide_eq_true_eq] at hc
  have hlw := (hc.2.resolve_left (by omega)).2
  rw [hy] at hlw
  subst hn
  have hts := hC.2.2.2.2.1
  exact va_mmax hC.1 hC.2.1 (by rw [hC.2.2.1, hl.1]) hC.2.2.2.1 (hts _ (gt_at hlw rfl)) (hts _ hw.1) (hts _ hw.2.1) (hts _ hw.2.2) (by have := hC.2.2.2.2.2.1; omega) (by rw [vv_map_cat]; have := hC.2.2.2.2.2.2; omega) hroom.1 hroom.2 hd (k p e R s m args below meth c H locs cells slots QQ ls hC hroom hw' hP hS hl hret)
theorem r_mmin {idx mj b : Nat} {z : Int} {x y : Int32} (hok : mc.all (fun q => chkI mi q.1 q.2) = true) (j : Nat) (hi : mc[j]? = some (pc, .invokestatic idx, nx, mj, b, z)) (hn : pc + 3 = nx) (hy : (mrow mj).1 = Lib.Math.min.name) (h9 : mj < 9000) (hw : MW Lib.Math.min.name Lib.Math.min.code 2 (some .int)) (hcat : (S.map fun v => v.category).sum ≤ 8)
    (k : G Θ (d + 1) mi nx L (.int (if y < x then y else x) :: S) σ Q) : G Θ (d + 1) mi pc L (.int y :: .int x :: S) σ Q := by
  intro p e R s m args below meth c H locs cells slots QQ ls hC hroom hw' hP hS hl hret
  have hd := dec_at hok hi hn
  have hc := chk_at hok hi
  simp only [chkI, Bool.and_eq_true, Bool.or_eq_true, decide_eq_true_eq] at hc
  have hlw := (hc.2.resolve_left (by omega)).2
  rw [hy] at hlw
  subst hn
  have hts := hC.2.2.2.2.1
  exact va_mmin hC.1 hC.2.1 (by rw [hC.2.2.1, hl.1]) hC.2.2.2.1 (hts _ (gt_at hlw rfl)) (hts _ hw.1) (hts _ hw.2.1) (hts _ hw.2.2) (by have := hC.2.2.2.2.2.1; omega) (by rw [vv_map_cat]; have := hC.2.2.2.2.2.2; omega) hroom.1 hroom.2 hd (k p e R s m args below meth c H locs cells slots QQ ls hC hroom hw' hP hS hl hret)
theorem r_mabs {idx mj b : Nat} {z : Int} {x : Int32} (hok : mc.all (fun q => chkI mi q.1 q.2) = true) (j : Nat) (hi : mc[j]? = some (pc, .invokestatic idx, nx, mj, b, z)) (hn : pc + 3 = nx) (hy : (mrow mj).1 = Lib.Math.abs.name) (h9 : mj < 9000) (hw : MW Lib.Math.abs.name Lib.Math.abs.code 1 (some .int)) (hcat : (S.map fun v => v.category).sum ≤ 8)
    (k : G Θ (d + 1) mi nx L (.int (if 0 ≤ x then x else 0 - x) :: S) σ Q) : G Θ (d + 1) mi pc L (.int x :: S) σ Q := by
  intro p e R s m args below meth c H locs cells slots QQ ls hC hroom hw' hP hS hl hret
  have hd := dec_at hok hi hn
  have hc := chk_at hok hi
  simp only [chkI, Bool.and_eq_true, Bool.or_eq_true, decide_eq_true_eq] at hc
  have hlw := (hc.2.resolve_left (by omega)).2
  rw [hy] at hlw
  subst hn
  have hts := hC.2.2.2.2.1
  exact va_mabs hC.1 hC.2.1 (by rw [hC.2.2.1, hl.1]) hC.2.2.2.1 (hts _ (gt_at hlw rfl)) (hts _ hw.1) (hts _ hw.2.1) (hts _ hw.2.2) (by have := hC.2.2.2.2.2.1; omega) (by rw [vv_map_cat]; have := hC.2.2.2.2.2.2; omega) hroom.1 hroom.2 hd (k p e R s m args below meth c H locs cells slots QQ ls hC hroom hw' hP hS hl hret)
theorem r_mlabs {idx mj b : Nat} {z : Int} {x : Int64} (hok : mc.all (fun q => chkI mi q.1 q.2) = true) (j : Nat) (hi : mc[j]? = some (pc, .invokestatic idx, nx, mj, b, z)) (hn : pc + 3 = nx) (hy : (mrow mj).1 = Lib.MathLoose.abs_long.x) (h9 : mj < 9000) (hw : MW Lib.MathLoose.abs_long.x Lib.MathLoose.abs_long.code 2 (some .long)) (hcat : (S.map fun v => v.category).sum ≤ 8)
    (k : G Θ (d + 1) mi nx L (.long (if 0 < x then x else -x) :: S) σ Q) : G Θ (d + 1) mi pc L (.long x :: S) σ Q := by
  intro p e R s m args below meth c H locs cells slots QQ ls hC hroom hw' hP hS hl hret
  have hd := dec_at hok hi hn
  have hc := chk_at hok hi
  simp only [chkI, Bool.and_eq_true, Bool.or_eq_true, decide_eq_true_eq] at hc
  have hlw := (hc.2.resolve_left (by omega)).2
  rw [hy] at hlw
  subst hn
  have hts := hC.2.2.2.2.1
  exact va_mabs_long hC.1 hC.2.1 (by rw [hC.2.2.1, hl.1]) hC.2.2.2.1 (hts _ (gt_at hlw rfl)) (hts _ hw.1) (hts _ hw.2.1) (hts _ hw.2.2) (by have := hC.2.2.2.2.2.1; omega) (by rw [vv_map_cat]; have := hC.2.2.2.2.2.2; omega) hroom.1 hroom.2 hd (k p e R s m args below meth c H locs cells slots QQ ls hC hroom hw' hP hS hl hret)
end mathrows
