/-! ROWS of the logic: an instruction each -/
section rows
variable {Θ : Th} {d mi pc nx : Nat} {mc : List (Nat × Ins)} {L : Lc} {S : List Value} {σ : Mem} {Q : Po} {u : Nat × Nat × Int}
theorem r_iconst {n : Int} {v : Int32} (hok : mc.all (fun q => chkI mi q.1 q.2) = true) (j : Nat) (hi : mc[j]? = some (pc, .iconst n, nx, u)) (hn : pc + 1 = nx) (hv : Int32.ofInt n = v) (k : G Θ d mi nx L (.int v :: S) σ Q) : G Θ d mi pc L (S) σ Q := by
  intro p e R s m args below meth c H locs cells slots QQ ls hC hroom hw hP hS hl hret
  have hd := dec_at hok hi hn
  subst hn
  exact lv_iconst hC.1 hC.2.1 hd hv (k p e R s m args below meth c H locs cells slots QQ ls hC hroom hw hP hS hl hret)
theorem r_bipush {n : Int} {v : Int32} (hok : mc.all (fun q => chkI mi q.1 q.2) = true) (j : Nat) (hi : mc[j]? = some (pc, .bipush n, nx, u)) (hn : pc + 2 = nx) (hv : (Int8.ofInt n).toInt32 = v) (k : G Θ d mi nx L (.int v :: S) σ Q) : G Θ d mi pc L (S) σ Q := by
  intro p e R s m args below meth c H locs cells slots QQ ls hC hroom hw hP hS hl hret
  have hd := dec_at hok hi hn
  subst hn
  exact lv_bipush hC.1 hC.2.1 hd hv (k p e R s m args below meth c H locs cells slots QQ ls hC hroom hw hP hS hl hret)
theorem r_sipush {n : Int} {v : Int32} (hok : mc.all (fun q => chkI mi q.1 q.2) = true) (j : Nat) (hi : mc[j]? = some (pc, .sipush n, nx, u)) (hn : pc + 3 = nx) (hv : (Int16.ofInt n).toInt32 = v) (k : G Θ d mi nx L (.int v :: S) σ Q) : G Θ d mi pc L (S) σ Q := by
  intro p e R s m args below meth c H locs cells slots QQ ls hC hroom hw hP hS hl hret
  have hd := dec_at hok hi hn
  subst hn
  exact lv_sipush hC.1 hC.2.1 hd hv (k p e R s m args below meth c H locs cells slots QQ ls hC hroom hw hP hS hl hret)
theorem r_lconst {n : Fin 2} {v : Int64} (hok : mc.all (fun q => chkI mi q.1 q.2) = true) (j : Nat) (hi : mc[j]? = some (pc, .lconst n, nx, u)) (hn : pc + 1 = nx) (hv : Int64.ofNat (n : Nat) = v) (k : G Θ d mi nx L (.long v :: S) σ Q) : G Θ d mi pc L (S) σ Q := by
  intro p e R s m args below meth c H locs cells slots QQ ls hC hroom hw hP hS hl hret
  have hd := dec_at hok hi hn
  subst hn
  exact lv_lconst hC.1 hC.2.1 hd hv (k p e R s m args below meth c H locs cells slots QQ ls hC hroom hw hP hS hl hret)
theorem r_iadd {x y : Int32} (hok : mc.all (fun q => chkI mi q.1 q.2) = true) (j : Nat) (hi : mc[j]? = some (pc, .iadd, nx, u)) (hn : pc + 1 = nx) (k : G Θ d mi nx L (.int (x + y) :: S) σ Q) : G Θ d mi pc L (.int y :: .int x :: S) σ Q := by
  intro p e R s m args below meth c H locs cells slots QQ ls hC hroom hw hP hS hl hret
  have hd := dec_at hok hi hn
  subst hn
  exact lv_iadd hC.1 hC.2.1 hd (k p e R s m args below meth c H locs cells slots QQ ls hC hroom hw hP hS hl hret)
theorem r_isub {x y : Int32} (hok : mc.all (fun q => chkI mi q.1 q.2) = true) (j : Nat) (hi : mc[j]? = some (pc, .isub, nx, u)) (hn : pc + 1 = nx) (k : G Θ d mi nx L (.int (x - y) :: S) σ Q) : G Θ d mi pc L (.int y :: .int x :: S) σ Q := by
  intro p e R s m args below meth c H locs cells slots QQ ls hC hroom hw hP hS hl hret
  have hd := dec_at hok hi hn
  subst hn
  exact lv_isub hC.1 hC.2.1 hd (k p e R s m args below meth c H locs cells slots QQ ls hC hroom hw hP hS hl hret)
theorem r_imul {x y : Int32} (hok : mc.all (fun q => chkI mi q.1 q.2) = true) (j : Nat) (hi : mc[j]? = some (pc, .imul, nx, u)) (hn : pc + 1 = nx) (k : G Θ d mi nx L (.int (x * y) :: S) σ Q) : G Θ d mi pc L (.int y :: .int x :: S) σ Q := by
  intro p e R s m args below meth c H locs cells slots QQ ls hC hroom hw hP hS hl hret
  have hd := dec_at hok hi hn
  subst hn
  exact lv_imul hC.1 hC.2.1 hd (k p e R s m args below meth c H locs cells slots QQ ls hC hroom hw hP hS hl hret)
theorem r_iand {x y : Int32} (hok : mc.all (fun q => chkI mi q.1 q.2) = true) (j : Nat) (hi : mc[j]? = some (pc, .iand, nx, u)) (hn : pc + 1 = nx) (k : G Θ d mi nx L (.int (x &&& y) :: S) σ Q) : G Θ d mi pc L (.int y :: .int x :: S) σ Q := by
  intro p e R s m args below meth c H locs cells slots QQ ls hC hroom hw hP hS hl hret
  have hd := dec_at hok hi hn
  subst hn
  exact lv_iand hC.1 hC.2.1 hd (k p e R s m args below meth c H locs cells slots QQ ls hC hroom hw hP hS hl hret)
theorem r_ior {x y : Int32} (hok : mc.all (fun q => chkI mi q.1 q.2) = true) (j : Nat) (hi : mc[j]? = some (pc, .ior, nx, u)) (hn : pc + 1 = nx) (k : G Θ d mi nx L (.int (x ||| y) :: S) σ Q) : G Θ d mi pc L (.int y :: .int x :: S) σ Q := by
  intro p e R s m args below meth c H locs cells slots QQ ls hC hroom hw hP hS hl hret
  have hd := dec_at hok hi hn
  subst hn
  exact lv_ior hC.1 hC.2.1 hd (k p e R s m args below meth c H locs cells slots QQ ls hC hroom hw hP hS hl hret)
theorem r_ixor {x y : Int32} (hok : mc.all (fun q => chkI mi q.1 q.2) = true) (j : Nat) (hi : mc[j]? = some (pc, .ixor, nx, u)) (hn : pc + 1 = nx) (k : G Θ d mi nx L (.int (x ^^^ y) :: S) σ Q) : G Θ d mi pc L (.int y :: .int x :: S) σ Q := by
  intro p e R s m args below meth c H locs cells slots QQ ls hC hroom hw hP hS hl hret
  have hd := dec_at hok hi hn
  subst hn
  exact lv_ixor hC.1 hC.2.1 hd (k p e R s m args below meth c H locs cells slots QQ ls hC hroom hw hP hS hl hret)
theorem r_ishl {x y : Int32} (hok : mc.all (fun q => chkI mi q.1 q.2) = true) (j : Nat) (hi : mc[j]? = some (pc, .ishl, nx, u)) (hn : pc + 1 = nx) (k : G Θ d mi nx L (.int (x <<< (y &&& 31)) :: S) σ Q) : G Θ d mi pc L (.int y :: .int x :: S) σ Q := by
  intro p e R s m args below meth c H locs cells slots QQ ls hC hroom hw hP hS hl hret
  have hd := dec_at hok hi hn
  subst hn
  exact lv_ishl hC.1 hC.2.1 hd (k p e R s m args below meth c H locs cells slots QQ ls hC hroom hw hP hS hl hret)
theorem r_ishr {x y : Int32} (hok : mc.all (fun q => chkI mi q.1 q.2) = true) (j : Nat) (hi : mc[j]? = some (pc, .ishr, nx, u)) (hn : pc + 1 = nx) (k : G Θ d mi nx L (.int (x >>> (y &&& 31)) :: S) σ Q) : G Θ d mi pc L (.int y :: .int x :: S) σ Q := by
  intro p e R s m args below meth c H locs cells slots QQ ls hC hroom hw hP hS hl hret
  have hd := dec_at hok hi hn
  subst hn
  exact lv_ishr hC.1 hC.2.1 hd (k p e R s m args below meth c H locs cells slots QQ ls hC hroom hw hP hS hl hret)
theorem r_ladd {x y : Int64} (hok : mc.all (fun q => chkI mi q.1 q.2) = true) (j : Nat) (hi : mc[j]? = some (pc, .ladd, nx, u)) (hn : pc + 1 = nx) (k : G Θ d mi nx L (.long (x + y) :: S) σ Q) : G Θ d mi pc L (.long y :: .long x :: S) σ Q := by
  intro p e R s m args below meth c H locs cells slots QQ ls hC hroom hw hP hS hl hret
  have hd := dec_at hok hi hn
  subst hn
  exact lv_ladd hC.1 hC.2.1 hd (k p e R s m args below meth c H locs cells slots QQ ls hC hroom hw hP hS hl hret)
theorem r_lsub {x y : Int64} (hok : mc.all (fun q => chkI mi q.1 q.2) = true) (j : Nat) (hi : mc[j]? = some (pc, .lsub, nx, u)) (hn : pc + 1 = nx) (k : G Θ d mi nx L (.long (x - y) :: S) σ Q) : G Θ d mi pc L (.long y :: .long x :: S) σ Q := by
  intro p e R s m args below meth c H locs cells slots QQ ls hC hroom hw hP hS hl hret
  have hd := dec_at hok hi hn
  subst hn
  exact lv_lsub hC.1 hC.2.1 hd (k p e R s m args below meth c H locs cells slots QQ ls hC hroom hw hP hS hl hret)
theorem r_lmul {x y : Int64} (hok : mc.all (fun q => chkI mi q.1 q.2) = true) (j : Nat) (hi : mc[j]? = some (pc, .lmul, nx, u)) (hn : pc + 1 = nx) (k : G Θ d mi nx L (.long (x * y) :: S) σ Q) : G Θ d mi pc L (.long y :: .long x :: S) σ Q := by
  intro p e R s m args below meth c H locs cells slots QQ ls hC hroom hw hP hS hl hret
  have hd := dec_at hok hi hn
  subst hn
  exact lv_lmul hC.1 hC.2.1 hd (k p e R s m args below meth c H locs cells slots QQ ls hC hroom hw hP hS hl hret)
theorem r_lor {x y : Int64} (hok : mc.all (fun q => chkI mi q.1 q.2) = true) (j : Nat) (hi : mc[j]? = some (pc, .lor, nx, u)) (hn : pc + 1 = nx) (k : G Θ d mi nx L (.long (x ||| y) :: S) σ Q) : G Θ d mi pc L (.long y :: .long x :: S) σ Q := by
  intro p e R s m args below meth c H locs cells slots QQ ls hC hroom hw hP hS hl hret
  have hd := dec_at hok hi hn
  subst hn
  exact lv_lor hC.1 hC.2.1 hd (k p e R s m args below meth c H locs cells slots QQ ls hC hroom hw hP hS hl hret)
theorem r_idiv {x y : Int32} (hok : mc.all (fun q => chkI mi q.1 q.2) = true) (j : Nat) (hi : mc[j]? = some (pc, .idiv, nx, u)) (hn : pc + 1 = nx) (hne : ¬ y = 0) (k : G Θ d mi nx L (.int (x / y) :: S) σ Q) : G Θ d mi pc L (.int y :: .int x :: S) σ Q := by
  intro p e R s m args below meth c H locs cells slots QQ ls hC hroom hw hP hS hl hret
  have hd := dec_at hok hi hn
  subst hn
  exact lv_idiv hC.1 hC.2.1 hd hne (k p e R s m args below meth c H locs cells slots QQ ls hC hroom hw hP hS hl hret)
theorem r_ldiv {x y : Int64} (hok : mc.all (fun q => chkI mi q.1 q.2) = true) (j : Nat) (hi : mc[j]? = some (pc, .ldiv, nx, u)) (hn : pc + 1 = nx) (hne : ¬ y = 0) (k : G Θ d mi nx L (.long (x / y) :: S) σ Q) : G Θ d mi pc L (.long y :: .long x :: S) σ Q := by
  intro p e R s m args below meth c H locs cells slots QQ ls hC hroom hw hP hS hl hret
  have hd := dec_at hok hi hn
  subst hn
  exact lv_ldiv hC.1 hC.2.1 hd hne (k p e R s m args below meth c H locs cells slots QQ ls hC hroom hw hP hS hl hret)
theorem r_lrem {x y : Int64} (hok : mc.all (fun q => chkI mi q.1 q.2) = true) (j : Nat) (hi : mc[j]? = some (pc, .lrem, nx, u)) (hn : pc + 1 = nx) (hne : ¬ y = 0) (k : G Θ d mi nx L (.long (x - x / y * y) :: S) σ Q) : G Θ d mi pc L (.long y :: .long x :: S) σ Q := by
  intro p e R s m args below meth c H locs cells slots QQ ls hC hroom hw hP hS hl hret
  have hd := dec_at hok hi hn
  subst hn
  exact lv_lrem hC.1 hC.2.1 hd hne (k p e R s m args below meth c H locs cells slots QQ ls hC hroom hw hP hS hl hret)
theorem r_ineg {x : Int32} (hok : mc.all (fun q => chkI mi q.1 q.2) = true) (j : Nat) (hi : mc[j]? = some (pc, .ineg, nx, u)) (hn : pc + 1 = nx) (k : G Θ d mi nx L (.int (-x) :: S) σ Q) : G Θ d mi pc L (.int x :: S) σ Q := by
  intro p e R s m args below meth c H locs cells slots QQ ls hC hroom hw hP hS hl hret
  have hd := dec_at hok hi hn
  subst hn
  exact lv_ineg hC.1 hC.2.1 hd (k p e R s m args below meth c H locs cells slots QQ ls hC hroom hw hP hS hl hret)
theorem r_lneg {x : Int64} (hok : mc.all (fun q => chkI mi q.1 q.2) = true) (j : Nat) (hi : mc[j]? = some (pc, .lneg, nx, u)) (hn : pc + 1 = nx) (k : G Θ d mi nx L (.long (-x) :: S) σ Q) : G Θ d mi pc L (.long x :: S) σ Q := by
  intro p e R s m args below meth c H locs cells slots QQ ls hC hroom hw hP hS hl hret
  have hd := dec_at hok hi hn
  subst hn
  exact lv_lneg hC.1 hC.2.1 hd (k p e R s m args below meth c H locs cells slots QQ ls hC hroom hw hP hS hl hret)
theorem r_iushr {x y : Int32} (hok : mc.all (fun q => chkI mi q.1 q.2) = true) (j : Nat) (hi : mc[j]? = some (pc, .iushr, nx, u)) (hn : pc + 1 = nx) (k : G Θ d mi nx L (.int ((x.toUInt32 >>> (y.toUInt32 &&& Int32.toUInt32 31)).toInt32) :: S) σ Q) : G Θ d mi pc L (.int y :: .int x :: S) σ Q := by
  intro p e R s m args below meth c H locs cells slots QQ ls hC hroom hw hP hS hl hret
  have hd := dec_at hok hi hn
  subst hn
  exact lv_iushr hC.1 hC.2.1 hd rfl (k p e R s m args below meth c H locs cells slots QQ ls hC hroom hw hP hS hl hret)
theorem r_lshl {x : Int64} {y : Int32} (hok : mc.all (fun q => chkI mi q.1 q.2) = true) (j : Nat) (hi : mc[j]? = some (pc, .lshl, nx, u)) (hn : pc + 1 = nx) (k : G Θ d mi nx L (.long (x <<< (y.toInt64 &&& 63)) :: S) σ Q) : G Θ d mi pc L (.int y :: .long x :: S) σ Q := by
  intro p e R s m args below meth c H locs cells slots QQ ls hC hroom hw hP hS hl hret
  have hd := dec_at hok hi hn
  subst hn
  exact lv_lshl hC.1 hC.2.1 hd rfl (k p e R s m args below meth c H locs cells slots QQ ls hC hroom hw hP hS hl hret)
theorem r_i2l {x : Int32} (hok : mc.all (fun q => chkI mi q.1 q.2) = true) (j : Nat) (hi : mc[j]? = some (pc, .i2l, nx, u)) (hn : pc + 1 = nx) (k : G Θ d mi nx L (.long x.toInt64 :: S) σ Q) : G Θ d mi pc L (.int x :: S) σ Q := by
  intro p e R s m args below meth c H locs cells slots QQ ls hC hroom hw hP hS hl hret
  have hd := dec_at hok hi hn
  subst hn
  exact lv_i2l hC.1 hC.2.1 hd rfl (k p e R s m args below meth c H locs cells slots QQ ls hC hroom hw hP hS hl hret)
theorem r_l2i {x : Int64} (hok : mc.all (fun q => chkI mi q.1 q.2) = true) (j : Nat) (hi : mc[j]? = some (pc, .l2i, nx, u)) (hn : pc + 1 = nx) (k : G Θ d mi nx L (.int x.toInt32 :: S) σ Q) : G Θ d mi pc L (.long x :: S) σ Q := by
  intro p e R s m args below meth c H locs cells slots QQ ls hC hroom hw hP hS hl hret
  have hd := dec_at hok hi hn
  subst hn
  exact lv_l2i hC.1 hC.2.1 hd rfl (k p e R s m args below meth c H locs cells slots QQ ls hC hroom hw hP hS hl hret)
theorem r_i2b {x : Int32} (hok : mc.all (fun q => chkI mi q.1 q.2) = true) (j : Nat) (hi : mc[j]? = some (pc, .i2b, nx, u)) (hn : pc + 1 = nx) (k : G Θ d mi nx L (.int x.toInt8.toInt32 :: S) σ Q) : G Θ d mi pc L (.int x :: S) σ Q := by
  intro p e R s m args below meth c H locs cells slots QQ ls hC hroom hw hP hS hl hret
  have hd := dec_at hok hi hn
  subst hn
  exact lv_i2b hC.1 hC.2.1 hd rfl (k p e R s m args below meth c H locs cells slots QQ ls hC hroom hw hP hS hl hret)
theorem r_i2c {x : Int32} (hok : mc.all (fun q => chkI mi q.1 q.2) = true) (j : Nat) (hi : mc[j]? = some (pc, .i2c, nx, u)) (hn : pc + 1 = nx) (k : G Θ d mi nx L (.int (x.toUInt32 % 65536).toInt32 :: S) σ Q) : G Θ d mi pc L (.int x :: S) σ Q := by
  intro p e R s m args below meth c H locs cells slots QQ ls hC hroom hw hP hS hl hret
  have hd := dec_at hok hi hn
  subst hn
  exact lv_i2c hC.1 hC.2.1 hd rfl (k p e R s m args below meth c H locs cells slots QQ ls hC hroom hw hP hS hl hret)
theorem r_lcmp {x y : Int64} (hok : mc.all (fun q => chkI mi q.1 q.2) = true) (j : Nat) (hi : mc[j]? = some (pc, .lcmp, nx, u)) (hn : pc + 1 = nx) (k : G Θ d mi nx L (.int (lg_cmp x y) :: S) σ Q) : G Θ d mi pc L (.long y :: .long x :: S) σ Q := by
  intro p e R s m args below meth c H locs cells slots QQ ls hC hroom hw hP hS hl hret
  have hd := dec_at hok hi hn
  subst hn
  exact W.lcmp hC.1 hC.2.1 hd (k p e R s m args below meth c H locs cells slots QQ ls hC hroom hw hP hS hl hret)
theorem r_dup {v : Value} (hok : mc.all (fun q => chkI mi q.1 q.2) = true) (j : Nat) (hi : mc[j]? = some (pc, .dup, nx, u)) (hn : pc + 1 = nx) (hv : v.category = 1) (k : G Θ d mi nx L (v :: v :: S) σ Q) : G Θ d mi pc L (v :: S) σ Q := by
  intro p e R s m args below meth c H locs cells slots QQ ls hC hroom hw hP hS hl hret
  have hd := dec_at hok hi hn
  subst hn
  exact lv_dup hC.1 hC.2.1 hd (by rw [vv_cat]; exact hv) (k p e R s m args below meth c H locs cells slots QQ ls hC hroom hw hP hS hl hret)
theorem r_pop {v : Value} (hok : mc.all (fun q => chkI mi q.1 q.2) = true) (j : Nat) (hi : mc[j]? = some (pc, .pop, nx, u)) (hn : pc + 1 = nx) (hv : v.category = 1) (k : G Θ d mi nx L (S) σ Q) : G Θ d mi pc L (v :: S) σ Q := by
  intro p e R s m args below meth c H locs cells slots QQ ls hC hroom hw hP hS hl hret
  have hd := dec_at hok hi hn
  subst hn
  exact lv_pop hC.1 hC.2.1 hd (by rw [vv_cat]; exact hv) (k p e R s m args below meth c H locs cells slots QQ ls hC hroom hw hP hS hl hret)
theorem r_dup2a {v w : Value} (hok : mc.all (fun q => chkI mi q.1 q.2) = true) (j : Nat) (hi : mc[j]? = some (pc, .dup2, nx, u)) (hn : pc + 1 = nx) (hv : v.category = 1) (hw2 : w.category = 1) (k : G Θ d mi nx L (v :: w :: v :: w :: S) σ Q) : G Θ d mi pc L (v :: w :: S) σ Q := by
  intro p e R s m args below meth c H locs cells slots QQ ls hC hroom hw hP hS hl hret
  have hd := dec_at hok hi hn
  subst hn
  exact lv_dup2_11 hC.1 hC.2.1 hd (by rw [vv_cat]; exact hv) (by rw [vv_cat]; exact hw2) (k p e R s m args below meth c H locs cells slots QQ ls hC hroom hw hP hS hl hret)
theorem r_dup2b {v : Value} (hok : mc.all (fun q => chkI mi q.1 q.2) = true) (j : Nat) (hi : mc[j]? = some (pc, .dup2, nx, u)) (hn : pc + 1 = nx) (hv : v.category = 2) (k : G Θ d mi nx L (v :: v :: S) σ Q) : G Θ d mi pc L (v :: S) σ Q := by
  intro p e R s m args below meth c H locs cells slots QQ ls hC hroom hw hP hS hl hret
  have hd := dec_at hok hi hn
  subst hn
  exact lv_dup2_2 hC.1 hC.2.1 hd (by rw [vv_cat]; exact hv) (k p e R s m args below meth c H locs cells slots QQ ls hC hroom hw hP hS hl hret)
theorem r_ldc {idx a b : Nat} {z : Int} {v : Int32} (hok : mc.all (fun q => chkI mi q.1 q.2) = true) (j : Nat) (hi : mc[j]? = some (pc, .ldc idx, nx, a, b, z)) (hn : pc + 2 = nx) (ha : a ≠ 1002) (hv : Int32.ofInt z = v) (k : G Θ d mi nx L (.int v :: S) σ Q) : G Θ d mi pc L S σ Q := by
  intro p e R s m args below meth c H locs cells slots QQ ls hC hroom hw hP hS hl hret
  have hd := dec_at hok hi hn
  have hc := chk_at hok hi
  simp only [chkI, Bool.and_eq_true, decide_eq_true_eq, brk, Bool.or_eq_true] at hc
  subst hn
  subst hv
  have hm := hc.2.resolve_left ha
  exact lv_ldc hC.1 hC.2.1 hC.2.2.2.1 (hC.2.2.2.2.1 _ (gt_at hm rfl)) hd (k p e R s m args below meth c H locs cells slots QQ ls hC hroom hw hP hS hl hret)
theorem r_ldc_w {idx a b : Nat} {z : Int} {v : Int32} (hok : mc.all (fun q => chkI mi q.1 q.2) = true) (j : Nat) (hi : mc[j]? = some (pc, .ldc_w idx, nx, a, b, z)) (hn : pc + 3 = nx) (hv : Int32.ofInt z = v) (k : G Θ d mi nx L (.int v :: S) σ Q) : G Θ d mi pc L S σ Q := by
  intro p e R s m args below meth c H locs cells slots QQ ls hC hroom hw hP hS hl hret
  have hd := dec_at hok hi hn
  have hc := chk_at hok hi
  simp only [chkI, Bool.and_eq_true, decide_eq_true_eq, brk] at hc
  subst hn
  subst hv
  have hm := hc.2
  exact lv_ldcw hC.1 hC.2.1 hC.2.2.2.1 (hC.2.2.2.2.1 _ (gt_at hm rfl)) hd (k p e R s m args below meth c H locs cells slots QQ ls hC hroom hw hP hS hl hret)
theorem r_ldc2_w {idx a b : Nat} {z : Int} {v : Int64} (hok : mc.all (fun q => chkI mi q.1 q.2) = true) (j : Nat) (hi : mc[j]? = some (pc, .ldc2_w idx, nx, a, b, z)) (hn : pc + 3 = nx) (hv : Int64.ofInt z = v) (k : G Θ d mi nx L (.long v :: S) σ Q) : G Θ d mi pc L S σ Q := by
  intro p e R s m args below meth c H locs cells slots QQ ls hC hroom hw hP hS hl hret
  have hd := dec_at hok hi hn
  have hc := chk_at hok hi
  simp only [chkI, Bool.and_eq_true, decide_eq_true_eq, brk] at hc
  subst hn
  subst hv
  have hm := hc.2
  exact lv_ldc2 hC.1 hC.2.1 hC.2.2.2.1 (hC.2.2.2.2.1 _ (gt_at hm rfl)) hd (k p e R s m args below meth c H locs cells slots QQ ls hC hroom hw hP hS hl hret)
theorem r_iload_n {x : Int32} {kk : Fin 4} {a : Nat} {u : Nat × Int} (hok : mc.all (fun q => chkI mi q.1 q.2) = true) (j : Nat) (hi : mc[j]? = some (pc, .iload_n kk, nx, a, u)) (hn : pc + 1 = nx) (hg : lget L a = some (.int x)) (k : G Θ d mi nx L (.int x :: S) σ Q) : G Θ d mi pc L S σ Q := by
  intro p e R s m args below meth c H locs cells slots QQ ls hC hroom hw hP hS hl hret
  have hd := dec_at hok hi hn
  have hc := chk_at hok hi
  simp only [chkI, Bool.and_eq_true, decide_eq_true_eq, brk] at hc
  subst hn
  exact lv_iload_n hC.1 hC.2.1 hd hc.2 (hl.2.2 a _ hg) (k p e R s m args below meth c H locs cells slots QQ ls hC hroom hw hP hS hl hret)
theorem r_istore_n {x : Int32} {kk : Fin 4} {a : Nat} {u : Nat × Int} (hok : mc.all (fun q => chkI mi q.1 q.2) = true) (j : Nat) (hi : mc[j]? = some (pc, .istore_n kk, nx, a, u)) (hn : pc + 1 = nx) (k : G Θ d mi nx (lst1 L a (.int x)) S σ Q) : G Θ d mi pc L (.int x :: S) σ Q := by
  intro p e R s m args below meth c H locs cells slots QQ ls hC hroom hw hP hS hl hret
  have hd := dec_at hok hi hn
  have hc := chk_at hok hi
  simp only [chkI, Bool.and_eq_true, decide_eq_true_eq, brk] at hc
  subst hn
  exact lv_istore_n hC.1 hC.2.1 hd hc.2.1 (lvL_has hl) hc.2.2 rfl (fun ls' h' => k p e R s m args below meth c H locs cells slots QQ ls' hC hroom hw hP hS (LR_st1 hl h') hret)
theorem r_iload {x : Int32} {kk : Nat} {a : Nat} {u : Nat × Int} (hok : mc.all (fun q => chkI mi q.1 q.2) = true) (j : Nat) (hi : mc[j]? = some (pc, .iload kk, nx, a, u)) (hn : pc + 2 = nx) (hg : lget L a = some (.int x)) (k : G Θ d mi nx L (.int x :: S) σ Q) : G Θ d mi pc L S σ Q := by
  intro p e R s m args below meth c H locs cells slots QQ ls hC hroom hw hP hS hl hret
  have hd := dec_at hok hi hn
  have hc := chk_at hok hi
  simp only [chkI, Bool.and_eq_true, decide_eq_true_eq, brk] at hc
  have hk : kk = a := hc.2
  subst hk
  subst hn
  exact lv_iload hC.1 hC.2.1 hd (hl.2.2 _ _ hg) (k p e R s m args below meth c H locs cells slots QQ ls hC hroom hw hP hS hl hret)
theorem r_istore {x : Int32} {kk : Nat} {a : Nat} {u : Nat × Int} (hok : mc.all (fun q => chkI mi q.1 q.2) = true) (j : Nat) (hi : mc[j]? = some (pc, .istore kk, nx, a, u)) (hn : pc + 2 = nx) (k : G Θ d mi nx (lst1 L a (.int x)) S σ Q) : G Θ d mi pc L (.int x :: S) σ Q := by
  intro p e R s m args below meth c H locs cells slots QQ ls hC hroom hw hP hS hl hret
  have hd := dec_at hok hi hn
  have hc := chk_at hok hi
  simp only [chkI, Bool.and_eq_true, decide_eq_true_eq, brk] at hc
  have hk : kk = a := hc.2.1
  subst hk
  subst hn
  exact lv_istore hC.1 hC.2.1 hd (lvL_has hl) hc.2.2 rfl (fun ls' h' => k p e R s m args below meth c H locs cells slots QQ ls' hC hroom hw hP hS (LR_st1 hl h') hret)
theorem r_lload_n {x : Int64} {kk : Fin 4} {a : Nat} {u : Nat × Int} (hok : mc.all (fun q => chkI mi q.1 q.2) = true) (j : Nat) (hi : mc[j]? = some (pc, .lload_n kk, nx, a, u)) (hn : pc + 1 = nx) (hg : lget L a = some (.long x)) (k : G Θ d mi nx L (.long x :: S) σ Q) : G Θ d mi pc L S σ Q := by
  intro p e R s m args below meth c H locs cells slots QQ ls hC hroom hw hP hS hl hret
  have hd := dec_at hok hi hn
  have hc := chk_at hok hi
  simp only [chkI, Bool.and_eq_true, decide_eq_true_eq, brk] at hc
  subst hn
  exact lv_lload_n hC.1 hC.2.1 hd hc.2 (hl.2.2 a _ hg) (k p e R s m args below meth c H locs cells slots QQ ls hC hroom hw hP hS hl hret)
theorem r_lstore_n {x : Int64} {kk : Fin 4} {a : Nat} {u : Nat × Int} (hok : mc.all (fun q => chkI mi q.1 q.2) = true) (j : Nat) (hi : mc[j]? = some (pc, .lstore_n kk, nx, a, u)) (hn : pc + 1 = nx) (k : G Θ d mi nx (lst2 L a (.long x)) S σ Q) : G Θ d mi pc L (.long x :: S) σ Q := by
  intro p e R s m args below meth c H locs cells slots QQ ls hC hroom hw hP hS hl hret
  have hd := dec_at hok hi hn
  have hc := chk_at hok hi
  simp only [chkI, Bool.and_eq_true, decide_eq_true_eq, brk] at hc
  subst hn
  exact lv_lstore_n hC.1 hC.2.1 hd hc.2.1 (lvL_has hl) hc.2.2 rfl (fun ls' h' => k p e R s m args below meth c H locs cells slots QQ ls' hC hroom hw hP hS (LR_st2 hl h') hret)
theorem r_lload {x : Int64} {kk : Nat} {a : Nat} {u : Nat × Int} (hok : mc.all (fun q => chkI mi q.1 q.2) = true) (j : Nat) (hi : mc[j]? = some (pc, .lload kk, nx, a, u)) (hn : pc + 2 = nx) (hg : lget L a = some (.long x)) (k : G Θ d mi nx L (.long x :: S) σ Q) : G Θ d mi pc L S σ Q := by
  intro p e R s m args below meth c H locs cells slots QQ ls hC hroom hw hP hS hl hret
  have hd := dec_at hok hi hn
  have hc := chk_at hok hi
  simp only [chkI, Bool.and_eq_true, decide_eq_true_eq, brk] at hc
  have hk : kk = a := hc.2
  subst hk
  subst hn
  exact lv_lload hC.1 hC.2.1 hd (hl.2.2 _ _ hg) (k p e R s m args below meth c H locs cells slots QQ ls hC hroom hw hP hS hl hret)
theorem r_lstore {x : Int64} {kk : Nat} {a : Nat} {u : Nat × Int} (hok : mc.all (fun q => chkI mi q.1 q.2) = true) (j : Nat) (hi : mc[j]? = some (pc, .lstore kk, nx, a, u)) (hn : pc + 2 = nx) (k : G Θ d mi nx (lst2 L a (.long x)) S σ Q) : G Θ d mi pc L (.long x :: S) σ Q := by
  intro p e R s m args below meth c H locs cells slots QQ ls hC hroom hw hP hS hl hret
  have hd := dec_at hok hi hn
  have hc := chk_at hok hi
  simp only [chkI, Bool.and_eq_true, decide_eq_true_eq, brk] at hc
  have hk : kk = a := hc.2.1
  subst hk
  subst hn
  exact lv_lstore hC.1 hC.2.1 hd (lvL_has hl) hc.2.2 rfl (fun ls' h' => k p e R s m args below meth c H locs cells slots QQ ls' hC hroom hw hP hS (LR_st2 hl h') hret)
theorem r_aload_n {r : Nat} {kk : Fin 4} {a : Nat} {u : Nat × Int} (hok : mc.all (fun q => chkI mi q.1 q.2) = true) (j : Nat) (hi : mc[j]? = some (pc, .aload_n kk, nx, a, u)) (hn : pc + 1 = nx) (hg : lget L a = some (.ref r)) (k : G Θ d mi nx L (.ref r :: S) σ Q) : G Θ d mi pc L S σ Q := by
  intro p e R s m args below meth c H locs cells slots QQ ls hC hroom hw hP hS hl hret
  have hd := dec_at hok hi hn
  have hc := chk_at hok hi
  simp only [chkI, Bool.and_eq_true, decide_eq_true_eq, brk] at hc
  subst hn
  exact lv_aload_n hC.1 hC.2.1 hd hc.2 (hl.2.2 a _ hg) (k p e R s m args below meth c H locs cells slots QQ ls hC hroom hw hP hS hl hret)
theorem r_astore_n {r : Nat} {kk : Fin 4} {a : Nat} {u : Nat × Int} (hok : mc.all (fun q => chkI mi q.1 q.2) = true) (j : Nat) (hi : mc[j]? = some (pc, .astore_n kk, nx, a, u)) (hn : pc + 1 = nx) (k : G Θ d mi nx (lst1 L a (.ref r)) S σ Q) : G Θ d mi pc L (.ref r :: S) σ Q := by
  intro p e R s m args below meth c H locs cells slots QQ ls hC hroom hw hP hS hl hret
  have hd := dec_at hok hi hn
  have hc := chk_at hok hi
  simp only [chkI, Bool.and_eq_true, decide_eq_true_eq, brk] at hc
  subst hn
  exact lv_astore_n hC.1 hC.2.1 hd hc.2.1 (lvL_has hl) hc.2.2 rfl (fun ls' h' => k p e R s m args below meth c H locs cells slots QQ ls' hC hroom hw hP hS (LR_st1 (v := .ref r) hl h') hret)
theorem r_aload {r : Nat} {kk : Nat} {a : Nat} {u : Nat × Int} (hok : mc.all (fun q => chkI mi q.1 q.2) = true) (j : Nat) (hi : mc[j]? = some (pc, .aload kk, nx, a, u)) (hn : pc + 2 = nx) (hg : lget L a = some (.ref r)) (k : G Θ d mi nx L (.ref r :: S) σ Q) : G Θ d mi pc L S σ Q := by
  intro p e R s m args below meth c H locs cells slots QQ ls hC hroom hw hP hS hl hret
  have hd := dec_at hok hi hn
  have hc := chk_at hok hi
  simp only [chkI, Bool.and_eq_true, decide_eq_true_eq, brk] at hc
  have hk : kk = a := hc.2
  subst hk
  subst hn
  exact lv_aload hC.1 hC.2.1 hd (hl.2.2 _ _ hg) (k p e R s m args below meth c H locs cells slots QQ ls hC hroom hw hP hS hl hret)
theorem r_astore {r : Nat} {kk : Nat} {a : Nat} {u : Nat × Int} (hok : mc.all (fun q => chkI mi q.1 q.2) = true) (j : Nat) (hi : mc[j]? = some (pc, .astore kk, nx, a, u)) (hn : pc + 2 = nx) (k : G Θ d mi nx (lst1 L a (.ref r)) S σ Q) : G Θ d mi pc L (.ref r :: S) σ Q := by
  intro p e R s m args below meth c H locs cells slots QQ ls hC hroom hw hP hS hl hret
  have hd := dec_at hok hi hn
  have hc := chk_at hok hi
  simp only [chkI, Bool.and_eq_true, decide_eq_true_eq, brk] at hc
  have hk : kk = a := hc.2.1
  subst hk
  subst hn
  exact lv_astore hC.1 hC.2.1 hd (lvL_has hl) hc.2.2 rfl (fun ls' h' => k p e R s m args below meth c H locs cells slots QQ ls' hC hroom hw hP hS (LR_st1 (v := .ref r) hl h') hret)
theorem r_iinc {x v : Int32} {kk a : Nat} {n : Int} {u : Nat × Int} (hok : mc.all (fun q => chkI mi q.1 q.2) = true) (j : Nat) (hi : mc[j]? = some (pc, .iinc kk n, nx, a, u)) (hn : pc + 3 = nx) (hg : lget L a = some (.int x)) (hv : x + Int32.ofInt n = v) (k : G Θ d mi nx (lst1 L a (.int v)) S σ Q) : G Θ d mi pc L S σ Q := by
  intro p e R s m args below meth c H locs cells slots QQ ls hC hroom hw hP hS hl hret
  have hd := dec_at hok hi hn
  have hc := chk_at hok hi
  simp only [chkI, Bool.and_eq_true, decide_eq_true_eq, brk] at hc
  have hk : kk = a := hc.2.1
  subst hk
  subst hn
  obtain ⟨q, hq⟩ := List.getElem?_of_mem (lvL_in hl hg)
  exact lv_iinc hC.1 hC.2.1 hd (lvL_has hl) hq hv hc.2.2 rfl (fun ls' h' => k p e R s m args below meth c H locs cells slots QQ ls' hC hroom hw hP hS (LR_st1 (v := .int v) hl h') hret)
theorem r_if_eq {x : Int32} {off : Int} {a : Nat} {u : Nat × Int} (hok : mc.all (fun q => chkI mi q.1 q.2) = true) (j : Nat) (hi : mc[j]? = some (pc, .ifCond .eq off, nx, a, u)) (hn : pc + 3 = nx) (kt : x = 0 → G Θ d mi a L S σ Q) (kf : ¬ x = 0 → G Θ d mi nx L S σ Q) : G Θ d mi pc L (.int x :: S) σ Q := by
  intro p e R s m args below meth c H locs cells slots QQ ls hC hroom hw hP hS hl hret
  have hd := dec_at hok hi hn
  have hc := chk_at hok hi
  simp only [chkI, Bool.and_eq_true, decide_eq_true_eq, brk] at hc
  subst hn
  exact lv_if_eq hC.1 hC.2.1 hd hc.2 (fun q => kt q p e R s m args below meth c H locs cells slots QQ ls hC hroom hw hP hS hl hret) (fun q => kf q p e R s m args below meth c H locs cells slots QQ ls hC hroom hw hP hS hl hret)
theorem r_icmp_eq {x y : Int32} {off : Int} {a : Nat} {u : Nat × Int} (hok : mc.all (fun q => chkI mi q.1 q.2) = true) (j : Nat) (hi : mc[j]? = some (pc, .if_icmp .eq off, nx, a, u)) (hn : pc + 3 = nx) (kt : x = y → G Θ d mi a L S σ Q) (kf : ¬ x = y → G Θ d mi nx L S σ Q) : G Θ d mi pc L (.int y :: .int x :: S) σ Q := by
  intro p e R s m args below meth c H locs cells slots QQ ls hC hroom hw hP hS hl hret
  have hd := dec_at hok hi hn
  have hc := chk_at hok hi
  simp only [chkI, Bool.and_eq_true, decide_eq_true_eq, brk] at hc
  subst hn
  exact lv_icmp_eq hC.1 hC.2.1 hd hc.2 (fun q => kt q p e R s m args below meth c H locs cells slots QQ ls hC hroom hw hP hS hl hret) (fun q => kf q p e R s m args below meth c H locs cells slots QQ ls hC hroom hw hP hS hl hret)
theorem r_if_ne {x : Int32} {off : Int} {a : Nat} {u : Nat × Int} (hok : mc.all (fun q => chkI mi q.1 q.2) = true) (j : Nat) (hi : mc[j]? = some (pc, .ifCond .ne off, nx, a, u)) (hn : pc + 3 = nx) (kt : ¬ x = 0 → G Θ d mi a L S σ Q) (kf : x = 0 → G Θ d mi nx L S σ Q) : G Θ d mi pc L (.int x :: S) σ Q := by
  intro p e R s m args below meth c H locs cells slots QQ ls hC hroom hw hP hS hl hret
  have hd := dec_at hok hi hn
  have hc := chk_at hok hi
  simp only [chkI, Bool.and_eq_true, decide_eq_true_eq, brk] at hc
  subst hn
  exact lv_if_ne hC.1 hC.2.1 hd hc.2 (fun q => kt q p e R s m args below meth c H locs cells slots QQ ls hC hroom hw hP hS hl hret) (fun q => kf q p e R s m args below meth c H locs cells slots QQ ls hC hroom hw hP hS hl hret)
theorem r_icmp_ne {x y : Int32} {off : Int} {a : Nat} {u : Nat × Int} (hok : mc.all (fun q => chkI mi q.1 q.2) = true) (j : Nat) (hi : mc[j]? = some (pc, .if_icmp .ne off, nx, a, u)) (hn : pc + 3 = nx) (kt : ¬ x = y → G Θ d mi a L S σ Q) (kf : x = y → G Θ d mi nx L S σ Q) : G Θ d mi pc L (.int y :: .int x :: S) σ Q := by
  intro p e R s m args below meth c H locs cells slots QQ ls hC hroom hw hP hS hl hret
  have hd := dec_at hok hi hn
  have hc := chk_at hok hi
  simp only [chkI, Bool.and_eq_true, decide_eq_true_eq, brk] at hc
  subst hn
  exact lv_icmp_ne hC.1 hC.2.1 hd hc.2 (fun q => kt q p e R s m args below meth c H locs cells slots QQ ls hC hroom hw hP hS hl hret) (fun q => kf q p e R s m args below meth c H locs cells slots QQ ls hC hroom hw hP hS hl hret)
theorem r_if_lt {x : Int32} {off : Int} {a : Nat} {u : Nat × Int} (hok : mc.all (fun q => chkI mi q.1 q.2) = true) (j : Nat) (hi : mc[j]? = some (pc, .ifCond .lt off, nx, a, u)) (hn : pc + 3 = nx) (kt : x < 0 → G Θ d mi a L S σ Q) (kf : ¬ x < 0 → G Θ d mi nx L S σ Q) : G Θ d mi pc L (.int x :: S) σ Q := by
  intro p e R s m args below meth c H locs cells slots QQ ls hC hroom hw hP hS hl hret
  have hd := dec_at hok hi hn
  have hc := chk_at hok hi
  simp only [chkI, Bool.and_eq_true, decide_eq_true_eq, brk] at hc
  subst hn
  exact lv_if_lt hC.1 hC.2.1 hd hc.2 (fun q => kt q p e R s m args below meth c H locs cells slots QQ ls hC hroom hw hP hS hl hret) (fun q => kf q p e R s m args below meth c H locs cells slots QQ ls hC hroom hw hP hS hl hret)
theorem r_icmp_lt {x y : Int32} {off : Int} {a : Nat} {u : Nat × Int} (hok : mc.all (fun q => chkI mi q.1 q.2) = true) (j : Nat) (hi : mc[j]? = some (pc, .if_icmp .lt off, nx, a, u)) (hn : pc + 3 = nx) (kt : x < y → G Θ d mi a L S σ Q) (kf : ¬ x < y → G Θ d mi nx L S σ Q) : G Θ d mi pc L (.int y :: .int x :: S) σ Q := by
  intro p e R s m args below meth c H locs cells slots QQ ls hC hroom hw hP hS hl hret
  have hd := dec_at hok hi hn
  have hc := chk_at hok hi
  simp only [chkI, Bool.and_eq_true, decide_eq_true_eq, brk] at hc
  subst hn
  exact lv_icmp_lt hC.1 hC.2.1 hd hc.2 (fun q => kt q p e R s m args below meth c H locs cells slots QQ ls hC hroom hw hP hS hl hret) (fun q => kf q p e R s m args below meth c H locs cells slots QQ ls hC hroom hw hP hS hl hret)
theorem r_if_ge {x : Int32} {off : Int} {a : Nat} {u : Nat × Int} (hok : mc.all (fun q => chkI mi q.1 q.2) = true) (j : Nat) (hi : mc[j]? = some (pc, .ifCond .ge off, nx, a, u)) (hn : pc + 3 = nx) (kt : 0 ≤ x → G Θ d mi a L S σ Q) (kf : ¬ 0 ≤ x → G Θ d mi nx L S σ Q) : G Θ d mi pc L (.int x :: S) σ Q := by
  intro p e R s m args below meth c H locs cells slots QQ ls hC hroom hw hP hS hl hret
  have hd := dec_at hok hi hn
  have hc := chk_at hok hi
  simp only [chkI, Bool.and_eq_true, decide_eq_true_eq, brk] at hc
  subst hn
  exact lv_if_ge hC.1 hC.2.1 hd hc.2 (fun q => kt q p e R s m args below meth c H locs cells slots QQ ls hC hroom hw hP hS hl hret) (fun q => kf q p e R s m args below meth c H locs cells slots QQ ls hC hroom hw hP hS hl hret)
theorem r_icmp_ge {x y : Int32} {off : Int} {a : Nat} {u : Nat × Int} (hok : mc.all (fun q => chkI mi q.1 q.2) = true) (j : Nat) (hi : mc[j]? = some (pc, .if_icmp .ge off, nx, a, u)) (hn : pc + 3 = nx) (kt : y ≤ x → G Θ d mi a L S σ Q) (kf : ¬ y ≤ x → G Θ d mi nx L S σ Q) : G Θ d mi pc L (.int y :: .int x :: S) σ Q := by
  intro p e R s m args below meth c H locs cells slots QQ ls hC hroom hw hP hS hl hret
  have hd := dec_at hok hi hn
  have hc := chk_at hok hi
  simp only [chkI, Bool.and_eq_true, decide_eq_true_eq, brk] at hc
  subst hn
  exact lv_icmp_ge hC.1 hC.2.1 hd hc.2 (fun q => kt q p e R s m args below meth c H locs cells slots QQ ls hC hroom hw hP hS hl hret) (fun q => kf q p e R s m args below meth c H locs cells slots QQ ls hC hroom hw hP hS hl hret)
theorem r_if_gt {x : Int32} {off : Int} {a : Nat} {u : Nat × Int} (hok : mc.all (fun q => chkI mi q.1 q.2) = true) (j : Nat) (hi : mc[j]? = some (pc, .ifCond .gt off, nx, a, u)) (hn : pc + 3 = nx) (kt : 0 < x → G Θ d mi a L S σ Q) (kf : ¬ 0 < x → G Θ d mi nx L S σ Q) : G Θ d mi pc L (.int x :: S) σ Q := by
  intro p e R s m args below meth c H locs cells slots QQ ls hC hroom hw hP hS hl hret
  have hd := dec_at hok hi hn
  have hc := chk_at hok hi
  simp only [chkI, Bool.and_eq_true, decide_eq_true_eq, brk] at hc
  subst hn
  exact lv_if_gt hC.1 hC.2.1 hd hc.2 (fun q => kt q p e R s m args below meth c H locs cells slots QQ ls hC hroom hw hP hS hl hret) (fun q => kf q p e R s m args below meth c H locs cells slots QQ ls hC hroom hw hP hS hl hret)
theorem r_icmp_gt {x y : Int32} {off : Int} {a : Nat} {u : Nat × Int} (hok : mc.all (fun q => chkI mi q.1 q.2) = true) (j : Nat) (hi : mc[j]? = some (pc, .if_icmp .gt off, nx, a, u)) (hn : pc + 3 = nx) (kt : y < x → G Θ d mi a L S σ Q) (kf : ¬ y < x → G Θ d mi nx L S σ Q) : G Θ d mi pc L (.int y :: .int x :: S) σ Q := by
  intro p e R s m args below meth c H locs cells slots QQ ls hC hroom hw hP hS hl hret
  have hd := dec_at hok hi hn
  have hc := chk_at hok hi
  simp only [chkI, Bool.and_eq_true, decide_eq_true_eq, brk] at hc
  subst hn
  exact lv_icmp_gt hC.1 hC.2.1 hd hc.2 (fun q => kt q p e R s m args below meth c H locs cells slots QQ ls hC hroom hw hP hS hl hret) (fun q => kf q p e R s m args below meth c H locs cells slots QQ ls hC hroom hw hP hS hl hret)
theorem r_if_le {x : Int32} {off : Int} {a : Nat} {u : Nat × Int} (hok : mc.all (fun q => chkI mi q.1 q.2) = true) (j : Nat) (hi : mc[j]? = some (pc, .ifCond .le off, nx, a, u)) (hn : pc + 3 = nx) (kt : x ≤ 0 → G Θ d mi a L S σ Q) (kf : ¬ x ≤ 0 → G Θ d mi nx L S σ Q) : G Θ d mi pc L (.int x :: S) σ Q := by
  intro p e R s m args below meth c H locs cells slots QQ ls hC hroom hw hP hS hl hret
  have hd := dec_at hok hi hn
  have hc := chk_at hok hi
  simp only [chkI, Bool.and_eq_true, decide_eq_true_eq, brk] at hc
  subst hn
  exact lv_if_le hC.1 hC.2.1 hd hc.2 (fun q => kt q p e R s m args below meth c H locs cells slots QQ ls hC hroom hw hP hS hl hret) (fun q => kf q p e R s m args below meth c H locs cells slots QQ ls hC hroom hw hP hS hl hret)
theorem r_icmp_le {x y : Int32} {off : Int} {a : Nat} {u : Nat × Int} (hok : mc.all (fun q => chkI mi q.1 q.2) = true) (j : Nat) (hi : mc[j]? = some (pc, .if_icmp .le off, nx, a, u)) (hn : pc + 3 = nx) (kt : x ≤ y → G Θ d mi a L S σ Q) (kf : ¬ x ≤ y → G Θ d mi nx L S σ Q) : G Θ d mi pc L (.int y :: .int x :: S) σ Q := by
  intro p e R s m args below meth c H locs cells slots QQ ls hC hroom hw hP hS hl hret
  have hd := dec_at hok hi hn
  have hc := chk_at hok hi
  simp only [chkI, Bool.and_eq_true, decide_eq_true_eq, brk] at hc
  subst hn
  exact lv_icmp_le hC.1 hC.2.1 hd hc.2 (fun q => kt q p e R s m args below meth c H locs cells slots QQ ls hC hroom hw hP hS hl hret) (fun q => kf q p e R s m args below meth c H locs cells slots QQ ls hC hroom hw hP hS hl hret)
theorem r_goto {off : Int} {a : Nat} {u : Nat × Int} (hok : mc.all (fun q => chkI mi q.1 q.2) = true) (j : Nat) (hi : mc[j]? = some (pc, .goto off, nx, a, u)) (hn : pc + 3 = nx) (k : G Θ d mi a L S σ Q) : G Θ d mi pc L S σ Q := by
  intro p e R s m args below meth c H locs cells slots QQ ls hC hroom hw hP hS hl hret
  have hd := dec_at hok hi hn
  have hc := chk_at hok hi
  simp only [chkI, Bool.and_eq_true, decide_eq_true_eq, brk] at hc
  subst hn
  exact lv_goto hC.1 hC.2.1 hd hc.2 (k p e R s m args below meth c H locs cells slots QQ ls hC hroom hw hP hS hl hret)
theorem r_iret {v : Int32} (hok : mc.all (fun q => chkI mi q.1 q.2) = true) (j : Nat) (hi : mc[j]? = some (pc, .ireturn, nx, u)) (hn : pc + 1 = nx) (hr : mrt mi = some .int) (k : Q (some (.int v)) σ) : G Θ d mi pc L [.int v] σ Q := by
  intro p e R s m args below meth c H locs cells slots QQ ls hC hroom hw hP hS hl hret
  have hd := dec_at hok hi hn
  exact hret pc ls H locs (some (.int v)) σ k hP hS (Or.inl ⟨v, rfl, hd, Or.inl hr⟩)
theorem r_lret {v : Int64} (hok : mc.all (fun q => chkI mi q.1 q.2) = true) (j : Nat) (hi : mc[j]? = some (pc, .lreturn, nx, u)) (hn : pc + 1 = nx) (hr : mrt mi = some .long) (k : Q (some (.long v)) σ) : G Θ d mi pc L [.long v] σ Q := by
  intro p e R s m args below meth c H locs cells slots QQ ls hC hroom hw hP hS hl hret
  have hd := dec_at hok hi hn
  exact hret pc ls H locs (some (.long v)) σ k hP hS (Or.inr (Or.inl ⟨v, rfl, hd, hr⟩))
theorem r_zret {v : Int32} (hok : mc.all (fun q => chkI mi q.1 q.2) = true) (j : Nat) (hi : mc[j]? = some (pc, .ireturn, nx, u)) (hn : pc + 1 = nx) (hr : mrt mi = some .boolean) (hv : v = 0 ∨ v = 1) (k : Q (some (.int v)) σ) : G Θ d mi pc L [.int v] σ Q := by
  intro p e R s m args below meth c H locs cells slots QQ ls hC hroom hw hP hS hl hret
  have hd := dec_at hok hi hn
  exact hret pc ls H locs (some (.int v)) σ k hP hS (Or.inl ⟨v, rfl, hd, Or.inr (Or.inl ⟨hr, hv⟩)⟩)
theorem r_bret (hok : mc.all (fun q => chkI mi q.1 q.2) = true) (j : Nat) (hi : mc[j]? = some (pc, .ireturn, nx, u)) (hn : pc + 1 = nx) (hr : mrt mi = some .byte) (k : Q (some (.int 0)) σ) : G Θ d mi pc L [.int 0] σ Q := by
  intro p e R s m args below meth c H locs cells slots QQ ls hC hroom hw hP hS hl hret
  have hd := dec_at hok hi hn
  exact hret pc ls H locs (some (.int 0)) σ k hP hS (Or.inl ⟨0, rfl, hd, Or.inr (Or.inr ⟨hr, rfl⟩)⟩)
theorem r_aret {v : Nat} {cn : String} (hok : mc.all (fun q => chkI mi q.1 q.2) = true) (j : Nat) (hi : mc[j]? = some (pc, .areturn, nx, u)) (hn : pc + 1 = nx) (hr : mrt mi = some (.object cn)) (k : Q (some (.ref v)) σ) : G Θ d mi pc L [.ref v] σ Q := by
  intro p e R s m args below meth c H locs cells slots QQ ls hC hroom hw hP hS hl hret
  have hd := dec_at hok hi hn
  exact hret pc ls H locs (some (.ref v)) σ k hP hS (Or.inr (Or.inr (Or.inl ⟨v, cn, rfl, hd, hr⟩)))
theorem r_ret (hok : mc.all (fun q => chkI mi q.1 q.2) = true) (j : Nat) (hi : mc[j]? = some (pc, .return_, nx, u)) (hn : pc + 1 = nx) (hr : mrt mi = none) (k : Q none σ) : G Θ d mi pc L [] σ Q := by
  intro p e R s m args below meth c H locs cells slots QQ ls hC hroom hw hP hS hl hret
  have hd := dec_at hok hi hn
  exact hret pc ls H locs none σ k hP hS (Or.inr (Or.inr (Or.inr ⟨rfl, hd, hr⟩)))
end rows
