/-! ROWS of the logic: the text of the law signs -/
def strL : List Int32 := [40, 41, 60, 62, 61, 43, 45, 42]
def strV (i : Nat) : Int32 := strL.getD i 0
def MFt (mj np : Nat) : Prop := mj < 9000 ∧ chkM mj = true ∧ mst mj = false ∧ cnm (moc mj) = "java/lang/String" ∧ mnp mj = np
section str
variable {Θ : Th} {d mi pc nx : Nat} {mc : List (Nat × Ins)} {L : Lc} {S S0 : List Value} {σ : Mem} {Q : Po} {u : Nat × Nat × Int}
theorem r_ldcs (hok : mc.all (fun q => chkI mi q.1 q.2) = true) (j : Nat) (hi : mc[j]? = some (pc, .ldc 77, nx, u)) (hn : pc + 2 = nx) (hT : cnm (moc mi) = "LikeYears$Tape") (k : G Θ d mi nx L (.ref 1002 :: S) σ Q) : G Θ d mi pc L S σ Q := by
  intro p e R s m args below meth c H locs cells slots QQ ls hC hroom hw hP hS hl hret
  have hd := dec_at hok hi hn
  subst hn
  have hown := hC.2.2.2.1
  rw [hT] at hown
  exact va_ldcS hC.1 hC.2.1 hown hw.2.2.2.2.2.1.1 hd (k p e R s m args below meth c H locs cells slots QQ ls hC hroom hw hP hS hl hret)
theorem r_gstV {idx : Nat} {z : Int} (hok : mc.all (fun q => chkI mi q.1 q.2) = true) (j : Nat) (hi : mc[j]? = some (pc, .getfield idx, nx, 1002, 0, z)) (hn : pc + 3 = nx) (hlw : Cond.fieldLink (cnm (moc mi)) idx "java/lang/String" "value" "[B" ∈ gt) (k : G Θ d mi nx L (.ref 1003 :: S) σ Q) : G Θ d mi pc L (.ref 1002 :: S) σ Q := by
  intro p e R s m args below meth c H locs cells slots QQ ls hC hroom hw hP hS hl hret
  have hd := dec_at hok hi hn
  subst hn
  exact vk_getf hC.1 hC.2.1 (hw.2.2.2.2.2.2.1.1 0 (by decide)).2.2.1 hS hC.2.2.2.1 (hC.2.2.2.2.1 _ hlw) (fun x h => h) hd (k p e R s m args below meth c H locs cells slots QQ ls hC hroom hw hP hS hl hret)
theorem r_gstC {idx : Nat} {z : Int} (hok : mc.all (fun q => chkI mi q.1 q.2) = true) (j : Nat) (hi : mc[j]? = some (pc, .getfield idx, nx, 1002, 1, z)) (hn : pc + 3 = nx) (hlw : Cond.fieldLink (cnm (moc mi)) idx "java/lang/String" "coder" "B" ∈ gt) (k : G Θ d mi nx L (.int 0 :: S) σ Q) : G Θ d mi pc L (.ref 1002 :: S) σ Q := by
  intro p e R s m args below meth c H locs cells slots QQ ls hC hroom hw hP hS hl hret
  have hd := dec_at hok hi hn
  subst hn
  exact vk_getf hC.1 hC.2.1 (hw.2.2.2.2.2.2.1.1 0 (by decide)).2.1 hS hC.2.2.2.1 (hC.2.2.2.2.1 _ hlw) (fun x h => h) hd (k p e R s m args below meth c H locs cells slots QQ ls hC hroom hw hP hS hl hret)
theorem r_gstS {idx b : Nat} {z : Int} (hok : mc.all (fun q => chkI mi q.1 q.2) = true) (j : Nat) (hi : mc[j]? = some (pc, .getstatic idx, nx, 1004, b, z)) (hn : pc + 3 = nx) (hlw : Cond.fieldLink (cnm (moc mi)) idx "java/lang/String" "COMPACT_STRINGS" "Z" ∈ gt) (k : G Θ d mi nx L (.int 1 :: S) σ Q) : G Θ d mi pc L S σ Q := by
  intro p e R s m args below meth c H locs cells slots QQ ls hC hroom hw hP hS hl hret
  have hd := dec_at hok hi hn
  subst hn
  exact va_gets hC.1 hC.2.1 hw.2.2.2.2.2.2.2 hS hC.2.2.2.1 (hC.2.2.2.2.1 _ hlw) (fun x h => h) hd (k p e R s m args below meth c H locs cells slots QQ ls hC hroom hw hP hS hl hret)
theorem r_tbld {i : Int32} (hok : mc.all (fun q => chkI mi q.1 q.2) = true) (j : Nat) (hi : mc[j]? = some (pc, .baload, nx, u)) (hn : pc + 1 = nx) (hin : vp_in i 8) (k : G Θ d mi nx L (.int (strV i.toNatClampNeg) :: S) σ Q) : G Θ d mi pc L (.int i :: .ref 1003 :: S) σ Q := by
  intro p e R s m args below meth c H locs cells slots QQ ls hC hroom hw hP hS hl hret
  have hd := dec_at hok hi hn
  subst hn
  exact va_tb hC.1 hC.2.1 (hw.2.2.2.2.2.2.1.1 0 (by decide)).2.2.2 hS hin rfl hd (k p e R s m args below meth c H locs cells slots QQ ls hC hroom hw hP hS hl hret)
theorem r_tbln (hok : mc.all (fun q => chkI mi q.1 q.2) = true) (j : Nat) (hi : mc[j]? = some (pc, .arraylength, nx, u)) (hn : pc + 1 = nx) (k : G Θ d mi nx L (.int 8 :: S) σ Q) : G Θ d mi pc L (.ref 1003 :: S) σ Q := by
  intro p e R s m args below meth c H locs cells slots QQ ls hC hroom hw hP hS hl hret
  have hd := dec_at hok hi hn
  subst hn
  exact va_tlen hC.1 hC.2.1 (hw.2.2.2.2.2.2.1.1 0 (by decide)).2.2.2 hS rfl hd (k p e R s m args below meth c H locs cells slots QQ ls hC hroom hw hP hS hl hret)
theorem r_invTi {idx mj b np : Nat} {z : Int} {as : List Value} {q : Int32 → Mem → Prop} (hok : mc.all (fun q => chkI mi q.1 q.2) = true) (j : Nat) (hi : mc[j]? = some (pc, .invokevirtual idx, nx, mj, b, z)) (hn : pc + 3 = nx) (mf : MFt mj np) (hlen : as.length = np) (hcat : (S.map fun v => v.category).sum ≤ 8) (hS0 : S0 = as.reverse ++ .ref 1002 :: S)
    (h : Ci Θ d mj (.ref 1002 :: as) σ q) (kk : ∀ x σ', q x σ' → G Θ (d + 1) mi nx L (.int x :: S) σ' Q) : G Θ (d + 1) mi pc L S0 σ Q := by
  intro p e R s m args below meth c H locs cells slots QQ ls hC hroom hw hP hS hl hret
  obtain ⟨h9, hM, hst, hcn, hnp⟩ := mf
  have hd := dec_at hok hi hn
  have hc := chk_at hok hi
  simp only [chkI, Bool.and_eq_true, Bool.or_eq_true, decide_eq_true_eq] at hc
  have hlw := (hc.2.resolve_left (by omega)).2
  subst hn
  obtain ⟨h1, h2, h3, h4, h5, h6, h7, h8, h10⟩ := chkM_of hM
  rw [if_neg (by rw [hst]; decide)] at h10
  have hts := hC.2.2.2.2.1
  have hG : GoodIn gt (wds mj) := fun w hw => by
    rcases List.mem_cons.mp hw with rfl | hw
    · exact ⟨h7, good_of_word (List.mem_filter.mp h7).2⟩
    · exact ⟨hw, good_of_word (List.mem_filter.mp hw).2⟩
  have hfr : (rmd d).frames + 1 ≤ R.frames := hC.2.2.2.2.2.1
  have hlo : 8 + (mml mj + 11) + (rmd d).locals ≤ R.locals := by
    have := hC.2.2.2.2.2.2
    show 8 + (mml mj + 11) + 64 * d ≤ R.locals
    omega
  have cb := callB_of (R := R) (mnp mj) hts hG rfl (rm := rmd d) (mc := 0) (ms := 0) rfl rfl (by rw [h1]; exact hts _ h8) (hts _ (gt_at hlw rfl)) ⟨by rw [h1]; exact h2, by rw [h1]; exact h3, h4⟩ ⟨hfr, hlo⟩
  have hrecv := vk_recv hw.2.2.2.2.2.2.1 (i := 0) (by decide) hS
  rw [← hcn] at hrecv
  subst hS0
  refine call_any (a := (Value.ref (Θ.2.2.1 1002) :: as.map (vv Θ)).toArray) (va_runV (As := as.map (vv Θ)) (rest := S.map (vv Θ)) (C := cnm (moc mj)) ⟨hC.1, hC.2.1, hC.2.2.1, hC.2.2.2.1, hts⟩ (show Cm Θ d mj (.ref 1002 :: as) σ (fun r σ' => ∃ x, r = some (.int x) ∧ q x σ') from h) ⟨cb, hts _ h10.1, hts _ h10.2⟩ ⟨Pc_blind (as := .ref 1002 :: as), hrecv, fun U hU hW => ⟨rfl, Ws_moved hw hS hU hW.alike (fun h => ⟨vk_R.warm hW h.1, va_Nw.warmF hW h.2⟩), by rw [hU]; exact hP⟩⟩ rfl (by rw [List.length_map, hlen, hnp]) hl.1 ?_ (lv_room (by rw [vv_map_cat]; exact hcat)) hd ⟨hroom.1, hroom.2⟩) hS (fun r σ' H1 locs1 hq hP1 hS1 => ?_)
  · show List.map (vv Θ) (as.reverse ++ .ref 1002 :: S) = (as.map (vv Θ)).reverse ++ .ref (Θ.2.2.1 1002) :: S.map (vv Θ)
    rw [List.map_append, List.map_reverse]; rfl
  · obtain ⟨x, rfl, h2⟩ := hq
    exact kk x σ' h2 p e R s m args below meth c H1 locs1 cells slots QQ ls hC hroom hw hP1 hS1 hl hret
end str
