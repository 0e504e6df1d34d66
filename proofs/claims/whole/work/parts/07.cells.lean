/-! ROWS of the logic: fields and arrays -/
theorem cls_at {ci : Nat} (h : ci < 13) : clss[ci]? = some ((clss.getD ci (RX0, TX0, 0)).1, tOf ci, (clss.getD ci (RX0, TX0, 0)).2.2) := by
  match ci, h with
  | 0, _ => rfl
  | 1, _ => rfl
  | 2, _ => rfl
  | 3, _ => rfl
  | 4, _ => rfl
  | 5, _ => rfl
  | 6, _ => rfl
  | 7, _ => rfl
  | 8, _ => rfl
  | 9, _ => rfl
  | 10, _ => rfl
  | 11, _ => rfl
  | 12, _ => rfl
  | n + 13, h => exact absurd h (by omega)
def layP : List (List Nat) := [[268, 270, 272, 274, 276, 278],
  [181, 183, 185, 187, 189, 191, 193, 195, 197, 199, 201, 203, 205],
  [115, 117, 119, 121, 123, 125],
  [396, 398, 400, 402, 404, 406, 408],
  [298, 300, 302, 304, 306, 308, 310, 312, 314],
  [337, 339],
  [229, 231, 233, 235, 237, 239, 241, 243, 245, 247, 249, 251],
  [359, 361, 363, 365, 367, 369, 371, 373, 375, 377],
  [97, 99],
  [431, 433, 435, 437, 439, 441, 443, 445, 447, 449],
  [60, 62, 64, 66, 68, 70, 72, 74, 76, 78, 80, 82],
  [472, 474, 476, 478, 480, 482, 484, 486, 488, 490, 492, 494, 496, 498, 500, 502, 504, 506],
  [1446, 1448, 1450, 1452, 1454, 1456, 1458, 1460, 1462, 1464, 1466, 1468, 1470, 1472, 1474, 1476, 1478, 1480, 1482, 1484, 1486, 1488, 1490, 1492, 1494, 1496, 1498, 1500, 1502, 1504, 1506, 1508, 1510, 1512, 1514, 1516, 1518, 1520, 1522, 1524, 1526, 1528, 1530, 1532, 1534, 1536, 1538, 1540, 1542, 1544, 1546, 1548, 1550, 1552, 1554, 1556, 1558, 1560, 1562, 1564, 1566, 1568, 1570, 1572, 1574, 1576, 1578, 1580, 1582, 1584, 1586, 1588, 1590, 1592, 1594, 1596, 1598, 1600, 1602, 1604, 1606, 1608, 1610, 1612, 1614, 1616, 1618, 1620]]
def wsB (ci : Nat) : Bool := (List.range (clss.getD ci (RX0, TX0, 0)).2.2).all fun k => decide (lw_tbl[npv + (layP.getD ci []).getD k 0]? = some (u_lay (clss.getD ci (RX0, TX0, 0)).1 (tOf ci) k)) && goodWord (u_lay (clss.getD ci (RX0, TX0, 0)).1 (tOf ci) k)
set_option maxRecDepth 100000 in
theorem wsB_0 : wsB 0 = true := by decide +kernel
set_option maxRecDepth 100000 in
theorem wsB_1 : wsB 1 = true := by decide +kernel
set_option maxRecDepth 100000 in
theorem wsB_2 : wsB 2 = true := by decide +kernel
set_option maxRecDepth 100000 in
theorem wsB_3 : wsB 3 = true := by decide +kernel
set_option maxRecDepth 100000 in
theorem wsB_4 : wsB 4 = true := by decide +kernel
set_option maxRecDepth 100000 in
theorem wsB_5 : wsB 5 = true := by decide +kernel
set_option maxRecDepth 100000 in
theorem wsB_6 : wsB 6 = true := by decide +kernel
set_option maxRecDepth 100000 in
theorem wsB_7 : wsB 7 = true := by decide +kernel
set_option maxRecDepth 100000 in
theorem wsB_8 : wsB 8 = true := by decide +kernel
set_option maxRecDepth 100000 in
theorem wsB_9 : wsB 9 = true := by decide +kernel
set_option maxRecDepth 100000 in
theorem wsB_10 : wsB 10 = true := by decide +kernel
set_option maxRecDepth 100000 in
theorem wsB_11 : wsB 11 = true := by decide +kernel
set_option maxRecDepth 100000 in
theorem wsB_12 : wsB 12 = true := by decide +kernel
theorem wsB_ok {ci : Nat} (h : ci < 13) : wsB ci = true := by
  match ci, h with
  | 0, _ => exact wsB_0
  | 1, _ => exact wsB_1
  | 2, _ => exact wsB_2
  | 3, _ => exact wsB_3
  | 4, _ => exact wsB_4
  | 5, _ => exact wsB_5
  | 6, _ => exact wsB_6
  | 7, _ => exact wsB_7
  | 8, _ => exact wsB_8
  | 9, _ => exact wsB_9
  | 10, _ => exact wsB_10
  | 11, _ => exact wsB_11
  | 12, _ => exact wsB_12
  | n + 13, h => exact absurd h (by omega)
theorem cls_ws {ci : Nat} (h : ci < 13) : ∀ w ∈ u_ws (clss.getD ci (RX0, TX0, 0)).1 (tOf ci) (clss.getD ci (RX0, TX0, 0)).2.2, w ∈ gt := by
  intro w hw
  obtain ⟨k, hk, rfl⟩ := List.mem_map.mp hw
  have h2 := List.all_eq_true.mp (wsB_ok h) k hk
  simp only [Bool.and_eq_true, decide_eq_true_eq] at h2
  exact gt_at h2.1 h2.2
theorem cls_ty {ci : Nat} (h : ci < 13) : ∀ k, k < (clss.getD ci (RX0, TX0, 0)).2.2 → parseFieldDescriptor (tOf ci k).2.2.1 = some (tyOf ci k) := by
  match ci, h with
  | 0, _ => exact tyX0_ok
  | 1, _ => exact tyX1_ok
  | 2, _ => exact tyX2_ok
  | 3, _ => exact tyX3_ok
  | 4, _ => exact tyX4_ok
  | 5, _ => exact tyX5_ok
  | 6, _ => exact tyX6_ok
  | 7, _ => exact tyX7_ok
  | 8, _ => exact tyX8_ok
  | 9, _ => exact tyX9_ok
  | 10, _ => exact tyX10_ok
  | 11, _ => exact tyX11_ok
  | 12, _ => exact tyX12_ok
  | n + 13, h => exact absurd h (by omega)
theorem cls_nm {ci : Nat} (h : ci < 13) : ∀ a, a < (clss.getD ci (RX0, TX0, 0)).2.2 → ∀ b, b < (clss.getD ci (RX0, TX0, 0)).2.2 → a ≠ b → (tOf ci a).2.1 ≠ (tOf ci b).2.1 := by
  match ci, h with
  | 0, _ => exact nmX0
  | 1, _ => exact nmX1
  | 2, _ => exact nmX2
  | 3, _ => exact nmX3
  | 4, _ => exact nmX4
  | 5, _ => exact nmX5
  | 6, _ => exact nmX6
  | 7, _ => exact nmX7
  | 8, _ => exact nmX8
  | 9, _ => exact nmX9
  | 10, _ => exact nmX10
  | 11, _ => exact nmX11
  | 12, _ => exact nmX12
  | n + 13, h => exact absurd h (by omega)
def szB (k : Nat) : Bool := decide ((shq k).1 < 13 → (shq k).2 = (clss.getD (shq k).1 (RX0, TX0, 0)).2.2)
theorem szB_ok : (List.range 185).all szB = true := by decide +kernel
theorem shp_sz {o ci : Nat} (h : (shq o).1 = ci) (hci : ci < 13) : (shq o).2 = (clss.getD ci (RX0, TX0, 0)).2.2 := by
  have hl : o < NLab := shp_lt (by rw [h]; omega)
  have h1 := List.all_eq_true.mp szB_ok o (List.mem_range.mpr hl)
  simp only [szB, decide_eq_true_eq] at h1
  rw [h] at h1
  exact h1 hci
def fkB (q : Nat × Nat) : Bool := decide (((fkq q.1 q.2).1 = 0 → tyOf q.1 q.2 = .int) ∧ ((fkq q.1 q.2).1 = 1 → tyOf q.1 q.2 = .long) ∧ ((fkq q.1 q.2).1 = 2 → tyOf q.1 q.2 = .boolean)) && (if (fkq q.1 q.2).1 = 3 then (match tyOf q.1 q.2 with | .object _ => true | .array _ => true | _ => false) else true)
def fkP : List (Nat × Nat) := (List.range 13).flatMap fun ci => (List.range (clss.getD ci (RX0, TX0, 0)).2.2).map fun k => (ci, k)
set_option maxRecDepth 100000 in
theorem fkB_ok : fkP.all fkB = true := by decide +kernel
theorem fk_ty {ci k : Nat} (hci : ci < 13) (hk : k < (clss.getD ci (RX0, TX0, 0)).2.2) : fkB (ci, k) = true :=
  List.all_eq_true.mp fkB_ok (ci, k) (List.mem_flatMap.mpr ⟨ci, List.mem_range.mpr hci, List.mem_map.mpr ⟨k, List.mem_range.mpr hk, rfl⟩⟩)
theorem ent_obj {Θ : Th} {σ : Mem} {o ci : Nat} (h : (shq o).1 = ci) (hci : ci < 13) : ent Θ σ o = .inr (ci, (List.range (shq o).2).map (fld Θ σ o ci)) := by
  unfold ent
  rw [h, if_neg (by omega), if_neg (by omega), if_neg (by omega), if_neg (by omega), if_neg (by omega)]
theorem obj_at {Θ : Th} {σ : Mem} {o ci : Nat} (h : (shq o).1 = ci) (hci : ci < 13) : (cel Θ σ)[o]? = some (Θ.2.2.1 o, .inr (ci, (List.range (shq o).2).map (fld Θ σ o ci))) := by
  rw [cel_at Θ σ (shp_lt (by rw [h]; omega)), ent_obj h hci]
theorem fld_set {Θ : Th} {σ σ' : Mem} {o ci n k : Nat} {v : Value} (hk : fld Θ σ' o ci k = v) (ho : ∀ j, j ≠ k → fld Θ σ' o ci j = fld Θ σ o ci j) : ((List.range n).map (fld Θ σ o ci)).set k v = (List.range n).map (fld Θ σ' o ci) := by
  apply List.ext_getElem?
  intro i
  rw [List.getElem?_set]
  by_cases hik : k = i
  · subst hik
    rw [if_pos rfl]
    by_cases hn : k < n
    · simp [hn, hk]
    · simp [hn]
  · rw [if_neg hik]
    simp only [List.getElem?_map]
    by_cases hn : i < n
    · simp [hn, ho i (fun h => hik h.symm)]
    · simp [hn]
theorem fld_neI {Θ : Th} {σ : Mem} {o k ci q : Nat} {v : Int32} (hq : q ≠ k) : fld Θ (sI σ o k v) o ci q = fld Θ σ o ci q := by
  have h1 : (sI σ o k v).1 o q = σ.1 o q := by simp [sI, hq]
  simp only [fld, h1]; rfl
theorem fld_neL {Θ : Th} {σ : Mem} {o k ci q : Nat} {v : Int64} (hq : q ≠ k) : fld Θ (sL σ o k v) o ci q = fld Θ σ o ci q := by
  have h1 : (sL σ o k v).2.1 o q = σ.2.1 o q := by simp [sL, hq]
  simp only [fld, h1]; rfl
theorem fld_neR {Θ : Th} {σ : Mem} {o k ci q : Nat} {v : Nat} (hq : q ≠ k) : fld Θ (sR σ o k v) o ci q = fld Θ σ o ci q := by
  have h1 : (sR σ o k v).2.2 o q = σ.2.2 o q := by simp [sR, hq]
  simp only [fld, h1]; rfl
theorem shq_ne (o : Nat) : (shq o).1 ≠ 1002 := by
  rcases Nat.lt_or_ge o NLab with h | h
  · have h1 := List.all_eq_true.mp (show (List.range 185).all (fun k => decide ((shq k).1 ≠ 1002)) = true by decide +kernel) o (List.mem_range.mpr h)
    simpa using h1
  · rw [shq, List.getD_eq_getElem?_getD, List.getElem?_eq_none (by rw [shL_len]; exact h)]; decide
section rows
variable {Θ : Th} {d mi pc nx : Nat} {mc : List (Nat × Ins)} {L : Lc} {S : List Value} {σ : Mem} {Q : Po} {u : Nat × Nat × Int}
theorem r_get {idx ci k o : Nat} {z : Int} {v : Value} (hok : mc.all (fun q => chkI mi q.1 q.2) = true) (j : Nat) (hi : mc[j]? = some (pc, .getfield idx, nx, ci, k, z)) (hn : pc + 3 = nx) (hs : (shq o).1 = ci) (hf : fld Θ σ o ci k = vv Θ v) (kk : G Θ d mi nx L (v :: S) σ Q) : G Θ d mi pc L (.ref o :: S) σ Q := by
  intro p e R s m args below meth c H locs cells slots QQ ls hC hroom hw hP hS hl hret
  have hd := dec_at hok hi hn
  have hc := chk_at hok hi
  simp only [chkI, Bool.and_eq_true, Bool.or_eq_true, decide_eq_true_eq] at hc
  obtain ⟨⟨hci, hk⟩, hlw⟩ := hc.2.resolve_left (by rw [← hs]; exact shq_ne o)
  subst hn
  have hsz := shp_sz hs hci
  exact va_get hC.1 hC.2.1 hC.2.2.2.2.1 (cls_ws hci) hC.2.2.2.1 hw.1 hP o (obj_at hs hci) (cls_at hci) k hk (hC.2.2.2.2.1 _ (gt_at hlw rfl)) (fun x h => h)
    (v := vv Θ v) (by rw [List.getElem?_map, List.getElem?_range (by rw [hsz]; exact hk)]; exact congrArg some hf) hd (kk p e R s m args below meth c H locs cells slots QQ ls hC hroom hw hP hS hl hret)
theorem r_getI {idx ci k o : Nat} {z : Int} (hok : mc.all (fun q => chkI mi q.1 q.2) = true) (j : Nat) (hi : mc[j]? = some (pc, .getfield idx, nx, ci, k, z)) (hn : pc + 3 = nx) (hs : (shq o).1 = ci) (hf : (fkq ci k).1 = 0) (kk : G Θ d mi nx L (.int (σ.1 o k) :: S) σ Q) : G Θ d mi pc L (.ref o :: S) σ Q :=
  r_get hok j hi hn hs (v := .int (σ.1 o k)) (by simp only [fld, hf]; rfl) kk
theorem r_getZ {idx ci k o : Nat} {z : Int} (hok : mc.all (fun q => chkI mi q.1 q.2) = true) (j : Nat) (hi : mc[j]? = some (pc, .getfield idx, nx, ci, k, z)) (hn : pc + 3 = nx) (hs : (shq o).1 = ci) (hf : (fkq ci k).1 = 2) (kk : G Θ d mi nx L (.int (σ.1 o k) :: S) σ Q) : G Θ d mi pc L (.ref o :: S) σ Q :=
  r_get hok j hi hn hs (v := .int (σ.1 o k)) (by simp only [fld, hf]; rfl) kk
theorem r_getL {idx ci k o : Nat} {z : Int} (hok : mc.all (fun q => chkI mi q.1 q.2) = true) (j : Nat) (hi : mc[j]? = some (pc, .getfield idx, nx, ci, k, z)) (hn : pc + 3 = nx) (hs : (shq o).1 = ci) (hf : (fkq ci k).1 = 1) (kk : G Θ d mi nx L (.long (σ.2.1 o k) :: S) σ Q) : G Θ d mi pc L (.ref o :: S) σ Q :=
  r_get hok j hi hn hs (v := .long (σ.2.1 o k)) (by simp only [fld, hf]; rfl) kk
theorem r_getR {idx ci k o : Nat} {z : Int} (hok : mc.all (fun q => chkI mi q.1 q.2) = true) (j : Nat) (hi : mc[j]? = some (pc, .getfield idx, nx, ci, k, z)) (hn : pc + 3 = nx) (hs : (shq o).1 = ci) (hf : (fkq ci k).1 = 3) (h0 : σ.2.2 o k ≠ 0) (kk : G Θ d mi nx L (.ref (σ.2.2 o k) :: S) σ Q) : G Θ d mi pc L (.ref o :: S) σ Q :=
  r_get hok j hi hn hs (v := .ref (σ.2.2 o k)) (by simp only [fld, hf]; simp [h0, vv]) kk
theorem r_getF {idx ci k o w : Nat} {z : Int} (hok : mc.all (fun q => chkI mi q.1 q.2) = true) (j : Nat) (hi : mc[j]? = some (pc, .getfield idx, nx, ci, k, z)) (hn : pc + 3 = nx) (hs : (shq o).1 = ci) (hf : fkq ci k = (4, w)) (kk : G Θ d mi nx L (.ref (o + w) :: S) σ Q) : G Θ d mi pc L (.ref o :: S) σ Q :=
  r_get hok j hi hn hs (v := .ref (o + w)) (by simp only [fld, hf]; rfl) kk
theorem r_getA {idx ci k o w : Nat} {z : Int} (hok : mc.all (fun q => chkI mi q.1 q.2) = true) (j : Nat) (hi : mc[j]? = some (pc, .getfield idx, nx, ci, k, z)) (hn : pc + 3 = nx) (hs : (shq o).1 = ci) (hf : fkq ci k = (5, w)) (kk : G Θ d mi nx L (.ref w :: S) σ Q) : G Θ d mi pc L (.ref o :: S) σ Q :=
  r_get hok j hi hn hs (v := .ref w) (by simp only [fld, hf]; rfl) kk
theorem r_put {idx ci k o : Nat} {z : Int} {v : Value} {σ' : Mem} (hok : mc.all (fun q => chkI mi q.1 q.2) = true) (j : Nat) (hi : mc[j]? = some (pc, .putfield idx, nx, ci, k, z)) (hn : pc + 3 = nx) (hs : (shq o).1 = ci)
    (hnar : ci < 13 → k < (clss.getD ci (RX0, TX0, 0)).2.2 → narrow (tyOf ci k) (vv Θ v) = vv Θ v ∧ fits (tyOf ci k) (vv Θ v) = true) (hf : fld Θ σ' o ci k = vv Θ v) (hf2 : ∀ j, j ≠ k → fld Θ σ' o ci j = fld Θ σ o ci j) (hf3 : ∀ j, j ≠ o → ent Θ σ' j = ent Θ σ j)
    (kk : G Θ d mi nx L S σ' Q) : G Θ d mi pc L (v :: .ref o :: S) σ Q := by
  intro p e R s m args below meth c H locs cells slots QQ ls hC hroom hw hP hS hl hret
  have hd := dec_at hok hi hn
  have hc := chk_at hok hi
  simp only [chkI, Bool.and_eq_true, decide_eq_true_eq] at hc
  obtain ⟨-, ⟨⟨hci, hk⟩, hfin⟩, hlw⟩ := hc
  subst hn
  have hsz := shp_sz hs hci
  refine va_put hC.1 hC.2.1 hC.2.2.2.2.1 (cls_ws hci) (tyOf ci) (cls_ty hci) (cls_nm hci) hC.2.2.2.1 hw.1 hP (cel_D hw.2.1 σ) hS o (obj_at hs hci) (cls_at hci) k hk (hC.2.2.2.2.1 _ (gt_at hlw rfl)) (fun x h => h) hfin (cls_ty hci k hk) (hnar hci hk).1 (hnar hci hk).2
    (by rw [List.length_map, List.length_range, hsz]; exact hk) hd (fun H1 locs1 hP1 hD1 hS1 => ?_)
  have he : (cel Θ σ).set o (Θ.2.2.1 o, .inr (ci, ((List.range (shq o).2).map (fld Θ σ o ci)).set k (vv Θ v))) = cel Θ σ' :=
    cel_set (shp_lt (by rw [hs]; omega)) (by rw [ent_obj hs hci, fld_set hf hf2]) hf3
  rw [he] at hP1
  exact kk p e R s m args below meth c H1 locs1 cells slots QQ ls hC hroom hw hP1 hS1 hl hret
theorem r_putI {idx ci k o : Nat} {z : Int} {x : Int32} (hok : mc.all (fun q => chkI mi q.1 q.2) = true) (j : Nat) (hi : mc[j]? = some (pc, .putfield idx, nx, ci, k, z)) (hn : pc + 3 = nx) (hs : (shq o).1 = ci) (hf : (fkq ci k).1 = 0) (kk : G Θ d mi nx L S (sI σ o k x) Q) : G Θ d mi pc L (.int x :: .ref o :: S) σ Q :=
  r_put hok j hi hn hs (v := .int x) (fun h1 h2 => by
    have h := fk_ty h1 h2
    simp only [fkB, Bool.and_eq_true, decide_eq_true_eq] at h
    rw [h.1.1 hf]; exact ⟨rfl, rfl⟩) (by simp only [fld, hf, sI]; simp [vv]) (fun q hq => fld_neI hq) (fun q hq => ent_I hq) kk
theorem r_putZ {idx ci k o : Nat} {z : Int} {x : Int32} (hok : mc.all (fun q => chkI mi q.1 q.2) = true) (j : Nat) (hi : mc[j]? = some (pc, .putfield idx, nx, ci, k, z)) (hn : pc + 3 = nx) (hs : (shq o).1 = ci) (hf : (fkq ci k).1 = 2) (hx : x = 0 ∨ x = 1) (kk : G Θ d mi nx L S (sI σ o k x) Q) : G Θ d mi pc L (.int x :: .ref o :: S) σ Q :=
  r_put hok j hi hn hs (v := .int x) (fun h1 h2 => by
    have h := fk_ty h1 h2
    simp only [fkB, Bool.and_eq_true, decide_eq_true_eq] at h
    rw [h.1.2.2 hf]; rcases hx with rfl | rfl <;> exact ⟨rfl, rfl⟩) (by simp only [fld, hf, sI]; simp [vv]) (fun q hq => fld_neI hq) (fun q hq => ent_I hq) kk
theorem r_putL {idx ci k o : Nat} {z : Int} {x : Int64} (hok : mc.all (fun q => chkI mi q.1 q.2) = true) (j : Nat) (hi : mc[j]? = some (pc, .putfield idx, nx, ci, k, z)) (hn : pc + 3 = nx) (hs : (shq o).1 = ci) (hf : (fkq ci k).1 = 1) (kk : G Θ d mi nx L S (sL σ o k x) Q) : G Θ d mi pc L (.long x :: .ref o :: S) σ Q :=
  r_put hok j hi hn hs (v := .long x) (fun h1 h2 => by
    have h := fk_ty h1 h2
    simp only [fkB, Bool.and_eq_true, decide_eq_true_eq] at h
    rw [h.1.2.1 hf]; exact ⟨rfl, rfl⟩) (by simp only [fld, hf, sL]; simp [vv]) (fun q hq => fld_neL hq) (fun q hq => ent_L hq) kk
theorem r_putR {idx ci k o r : Nat} {z : Int} (hok : mc.all (fun q => chkI mi q.1 q.2) = true) (j : Nat) (hi : mc[j]? = some (pc, .putfield idx, nx, ci, k, z)) (hn : pc + 3 = nx) (hs : (shq o).1 = ci) (hf : (fkq ci k).1 = 3) (hr : r ≠ 0) (kk : G Θ d mi nx L S (sR σ o k r) Q) : G Θ d mi pc L (.ref r :: .ref o :: S) σ Q :=
  r_put hok j hi hn hs (v := .ref r) (fun h1 h2 => by
    have h := fk_ty h1 h2
    simp only [fkB, Bool.and_eq_true, decide_eq_true_eq, hf, if_true] at h
    have h2 := h.2
    revert h2
    cases tyOf ci k <;> intro h2 <;> first | (cases h2; done) | exact ⟨rfl, rfl⟩) (by simp only [fld, hf, sR]; simp [vv, hr]) (fun q hq => fld_neR hq) (fun q hq => ent_R hq) kk
/-! arrays -/
theorem ent20 {o n : Nat} (h : shq o = (20, n)) : ent Θ σ o = .inl (Θ.2.2.2.1 0, n, .inl (σ.1 o)) := by simp [ent, h]
theorem ent21 {o n : Nat} (h : shq o = (21, n)) : ent Θ σ o = .inl (Θ.2.2.2.1 1, n, .inr (.inl (σ.2.1 o))) := by simp [ent, h]
theorem ent22 {o n : Nat} (h : shq o = (22, n)) : ent Θ σ o = .inl (Θ.2.2.2.1 2, n, .inl (σ.1 o)) := by simp [ent, h]
theorem ent23 {o n : Nat} (h : shq o = (23, n)) : ent Θ σ o = .inl (Θ.2.2.2.1 3, n, .inl (σ.1 o)) := by simp [ent, h]
theorem ent24 {o n : Nat} (h : shq o = (24, n)) : ent Θ σ o = .inl (Θ.2.2.2.1 4, n, .inr (.inr (.inr (.inr (fun i => some (Θ.2.2.1 (47 + 10 * i))))))) := by simp [ent, h]
theorem shp_l {o a n : Nat} (h : shq o = (a, n)) (ha : a ≠ 99) : o < NLab := shp_lt (by rw [h]; exact ha)
theorem r_iald {o n : Nat} {i : Int32} (hok : mc.all (fun q => chkI mi q.1 q.2) = true) (j : Nat) (hi : mc[j]? = some (pc, .iaload, nx, u)) (hn : pc + 1 = nx) (hs : shq o = (20, n)) (hin : vp_in i n) (k : G Θ d mi nx L (.int (σ.1 o i.toNatClampNeg) :: S) σ Q) : G Θ d mi pc L (.int i :: .ref o :: S) σ Q := by
  intro p e R s m args below meth c H locs cells slots QQ ls hC hroom hw hP hS hl hret
  have hd := dec_at hok hi hn
  subst hn
  exact va_iald hC.1 hC.2.1 hw.1 hP o 0 (by rw [cel_at Θ σ (shp_l hs (by decide)), ent20 hs]) rfl hin hd (k p e R s m args below meth c H locs cells slots QQ ls hC hroom hw hP hS hl hret)
theorem r_lald {o n : Nat} {i : Int32} (hok : mc.all (fun q => chkI mi q.1 q.2) = true) (j : Nat) (hi : mc[j]? = some (pc, .laload, nx, u)) (hn : pc + 1 = nx) (hs : shq o = (21, n)) (hin : vp_in i n) (k : G Θ d mi nx L (.long (σ.2.1 o i.toNatClampNeg) :: S) σ Q) : G Θ d mi pc L (.int i :: .ref o :: S) σ Q := by
  intro p e R s m args below meth c H locs cells slots QQ ls hC hroom hw hP hS hl hret
  have hd := dec_at hok hi hn
  subst hn
  exact va_lald hC.1 hC.2.1 hw.1 hP o 1 (by rw [cel_at Θ σ (shp_l hs (by decide)), ent21 hs]) rfl hin hd (k p e R s m args below meth c H locs cells slots QQ ls hC hroom hw hP hS hl hret)
theorem r_bald {o n : Nat} {i : Int32} (hok : mc.all (fun q => chkI mi q.1 q.2) = true) (j : Nat) (hi : mc[j]? = some (pc, .baload, nx, u)) (hn : pc + 1 = nx) (hs : shq o = (22, n)) (hin : vp_in i n) (k : G Θ d mi nx L (.int (σ.1 o i.toNatClampNeg) :: S) σ Q) : G Θ d mi pc L (.int i :: .ref o :: S) σ Q := by
  intro p e R s m args below meth c H locs cells slots QQ ls hC hroom hw hP hS hl hret
  have hd := dec_at hok hi hn
  subst hn
  exact va_bald hC.1 hC.2.1 hw.1 hP o 2 (by rw [cel_at Θ σ (shp_l hs (by decide)), ent22 hs]) rfl hin hd (k p e R s m args below meth c H locs cells slots QQ ls hC hroom hw hP hS hl hret)
theorem r_zald {o n : Nat} {i : Int32} (hok : mc.all (fun q => chkI mi q.1 q.2) = true) (j : Nat) (hi : mc[j]? = some (pc, .baload, nx, u)) (hn : pc + 1 = nx) (hs : shq o = (23, n)) (hin : vp_in i n) (k : G Θ d mi nx L (.int (σ.1 o i.toNatClampNeg) :: S) σ Q) : G Θ d mi pc L (.int i :: .ref o :: S) σ Q := by
  intro p e R s m args below meth c H locs cells slots QQ ls hC hroom hw hP hS hl hret
  have hd := dec_at hok hi hn
  subst hn
  exact va_zald hC.1 hC.2.1 hw.1 hP o 3 (by rw [cel_at Θ σ (shp_l hs (by decide)), ent23 hs]) rfl hin hd (k p e R s m args below meth c H locs cells slots QQ ls hC hroom hw hP hS hl hret)
theorem r_aald {o n : Nat} {i : Int32} (hok : mc.all (fun q => chkI mi q.1 q.2) = true) (j : Nat) (hi : mc[j]? = some (pc, .aaload, nx, u)) (hn : pc + 1 = nx) (hs : shq o = (24, n)) (hin : vp_in i n) (k : G Θ d mi nx L (.ref (47 + 10 * i.toNatClampNeg) :: S) σ Q) : G Θ d mi pc L (.int i :: .ref o :: S) σ Q := by
  intro p e R s m args below meth c H locs cells slots QQ ls hC hroom hw hP hS hl hret
  have hd := dec_at hok hi hn
  subst hn
  exact va_aldq (f := fun i => some (Θ.2.2.1 (47 + 10 * i))) hC.1 hC.2.1 hw.1 hP o 4 (by rw [cel_at Θ σ (shp_l hs (by decide)), ent24 hs]) rfl hin hd (k p e R s m args below meth c H locs cells slots QQ ls hC hroom hw hP hS hl hret)
theorem r_iast {o n : Nat} {i x : Int32} (hok : mc.all (fun q => chkI mi q.1 q.2) = true) (j : Nat) (hi : mc[j]? = some (pc, .iastore, nx, u)) (hn : pc + 1 = nx) (hs : shq o = (20, n)) (hin : vp_in i n) (k : G Θ d mi nx L S (sI σ o i.toNatClampNeg x) Q) : G Θ d mi pc L (.int x :: .int i :: .ref o :: S) σ Q := by
  intro p e R s m args below meth c H locs cells slots QQ ls hC hroom hw hP hS hl hret
  have hd := dec_at hok hi hn
  subst hn
  refine va_iast hC.1 hC.2.1 hw.1 hP (cel_D hw.2.1 σ) hS o 0 (by rw [cel_at Θ σ (shp_l hs (by decide)), ent20 hs]) rfl hin hd (fun H1 locs1 hP1 hD1 hS1 => ?_)
  have he : (cel Θ σ).set o (Θ.2.2.1 o, .inl (Θ.2.2.2.1 0, n, .inl (upd (σ.1 o) i.toNatClampNeg x))) = cel Θ (sI σ o i.toNatClampNeg x) :=
    cel_set (shp_l hs (by decide)) (by rw [ent20 hs]; congr 4; funext q; simp [sI, upd]) (fun q hq => ent_I hq)
  rw [he] at hP1
  exact k p e R s m args below meth c H1 locs1 cells slots QQ ls hC hroom hw hP1 hS1 hl hret
theorem r_bast {o n : Nat} {i x : Int32} (hok : mc.all (fun q => chkI mi q.1 q.2) = true) (j : Nat) (hi : mc[j]? = some (pc, .bastore, nx, u)) (hn : pc + 1 = nx) (hs : shq o = (22, n)) (hin : vp_in i n) (k : G Θ d mi nx L S (sI σ o i.toNatClampNeg (vp_nar .byte x)) Q) : G Θ d mi pc L (.int x :: .int i :: .ref o :: S) σ Q := by
  intro p e R s m args below meth c H locs cells slots QQ ls hC hroom hw hP hS hl hret
  have hd := dec_at hok hi hn
  subst hn
  refine va_bast hC.1 hC.2.1 hw.1 hP (cel_D hw.2.1 σ) hS o 2 (by rw [cel_at Θ σ (shp_l hs (by decide)), ent22 hs]) rfl hin hd (fun H1 locs1 hP1 hD1 hS1 => ?_)
  have he : (cel Θ σ).set o (Θ.2.2.1 o, .inl (Θ.2.2.2.1 2, n, .inl (upd (σ.1 o) i.toNatClampNeg (vp_nar .byte x)))) = cel Θ (sI σ o i.toNatClampNeg (vp_nar .byte x)) :=
    cel_set (shp_l hs (by decide)) (by rw [ent22 hs]; congr 4; funext q; simp [sI, upd]) (fun q hq => ent_I hq)
  rw [he] at hP1
  exact k p e R s m args below meth c H1 locs1 cells slots QQ ls hC hroom hw hP1 hS1 hl hret
theorem r_zast {o n : Nat} {i x : Int32} (hok : mc.all (fun q => chkI mi q.1 q.2) = true) (j : Nat) (hi : mc[j]? = some (pc, .bastore, nx, u)) (hn : pc + 1 = nx) (hs : shq o = (23, n)) (hin : vp_in i n) (k : G Θ d mi nx L S (sI σ o i.toNatClampNeg (vp_nar .boolean x)) Q) : G Θ d mi pc L (.int x :: .int i :: .ref o :: S) σ Q := by
  intro p e R s m args below meth c H locs cells slots QQ ls hC hroom hw hP hS hl hret
  have hd := dec_at hok hi hn
  subst hn
  refine va_zast hC.1 hC.2.1 hw.1 hP (cel_D hw.2.1 σ) hS o 3 (by rw [cel_at Θ σ (shp_l hs (by decide)), ent23 hs]) rfl hin hd (fun H1 locs1 hP1 hD1 hS1 => ?_)
  have he : (cel Θ σ).set o (Θ.2.2.1 o, .inl (Θ.2.2.2.1 3, n, .inl (upd (σ.1 o) i.toNatClampNeg (vp_nar .boolean x)))) = cel Θ (sI σ o i.toNatClampNeg (vp_nar .boolean x)) :=
    cel_set (shp_l hs (by decide)) (by rw [ent23 hs]; congr 4; funext q; simp [sI, upd]) (fun q hq => ent_I hq)
  rw [he] at hP1
  exact k p e R s m args below meth c H1 locs1 cells slots QQ ls hC hroom hw hP1 hS1 hl hret
theorem r_last {o n : Nat} {i : Int32} {x : Int64} (hok : mc.all (fun q => chkI mi q.1 q.2) = true) (j : Nat) (hi : mc[j]? = some (pc, .lastore, nx, u)) (hn : pc + 1 = nx) (hs : shq o = (21, n)) (hin : vp_in i n) (k : G Θ d mi nx L S (sL σ o i.toNatClampNeg x) Q) : G Θ d mi pc L (.long x :: .int i :: .ref o :: S) σ Q := by
  intro p e R s m args below meth c H locs cells slots QQ ls hC hroom hw hP hS hl hret
  have hd := dec_at hok hi hn
  subst hn
  refine va_last hC.1 hC.2.1 hw.1 hP (cel_D hw.2.1 σ) hS o 1 (by rw [cel_at Θ σ (shp_l hs (by decide)), ent21 hs]) rfl hin hd (fun H1 locs1 hP1 hD1 hS1 => ?_)
  have he : (cel Θ σ).set o (Θ.2.2.1 o, .inl (Θ.2.2.2.1 1, n, .inr (.inl (vp_updL (σ.2.1 o) i.toNatClampNeg x)))) = cel Θ (sL σ o i.toNatClampNeg x) :=
    cel_set (shp_l hs (by decide)) (by rw [ent21 hs]; congr 5; funext q; simp [sL, vp_updL]) (fun q hq => ent_L hq)
  rw [he] at hP1
  exact k p e R s m args below meth c H1 locs1 cells slots QQ ls hC hroom hw hP1 hS1 hl hret
theorem r_alen20 {o n : Nat} {v : Int32} (hok : mc.all (fun q => chkI mi q.1 q.2) = true) (j : Nat) (hi : mc[j]? = some (pc, .arraylength, nx, u)) (hn : pc + 1 = nx) (hs : shq o = (20, n)) (hv : Int32.ofNat n = v) (k : G Θ d mi nx L (.int v :: S) σ Q) : G Θ d mi pc L (.ref o :: S) σ Q := by
  intro p e R s m args below meth c H locs cells slots QQ ls hC hroom hw hP hS hl hret
  have hd := dec_at hok hi hn
  subst hn
  exact va_alen hC.1 hC.2.1 hw.1 hP o 0 (by rw [cel_at Θ σ (shp_l hs (by decide)), ent20 hs]) rfl hv hd (k p e R s m args below meth c H locs cells slots QQ ls hC hroom hw hP hS hl hret)
theorem r_alen23 {o n : Nat} {v : Int32} (hok : mc.all (fun q => chkI mi q.1 q.2) = true) (j : Nat) (hi : mc[j]? = some (pc, .arraylength, nx, u)) (hn : pc + 1 = nx) (hs : shq o = (23, n)) (hv : Int32.ofNat n = v) (k : G Θ d mi nx L (.int v :: S) σ Q) : G Θ d mi pc L (.ref o :: S) σ Q := by
  intro p e R s m args below meth c H locs cells slots QQ ls hC hroom hw hP hS hl hret
  have hd := dec_at hok hi hn
  subst hn
  exact va_alen hC.1 hC.2.1 hw.1 hP o 3 (by rw [cel_at Θ σ (shp_l hs (by decide)), ent23 hs]) rfl hv hd (k p e R s m args below meth c H locs cells slots QQ ls hC hroom hw hP hS hl hret)
/-! the script, the words that are no names -/
theorem r_sld {i : Int32} (hok : mc.all (fun q => chkI mi q.1 q.2) = true) (j : Nat) (hi : mc[j]? = some (pc, .iaload, nx, u)) (hn : pc + 1 = nx) (hin : vp_in i Θ.2.2.2.2.1) (k : G Θ d mi nx L (.int (Θ.2.2.2.2.2 i.toNatClampNeg) :: S) σ Q) : G Θ d mi pc L (.int i :: .ref 1000 :: S) σ Q := by
  intro p e R s m args below meth c H locs cells slots QQ ls hC hroom hw hP hS hl hret
  have hd := dec_at hok hi hn
  subst hn
  exact va_sld hC.1 hC.2.1 hw.2.2.1.1 hw.2.2.1.2.1 hw.2.2.1.2.2 hS hin hd (k p e R s m args below meth c H locs cells slots QQ ls hC hroom hw hP hS hl hret)
theorem r_slen (hok : mc.all (fun q => chkI mi q.1 q.2) = true) (j : Nat) (hi : mc[j]? = some (pc, .arraylength, nx, u)) (hn : pc + 1 = nx) (k : G Θ d mi nx L (.int (Int32.ofNat Θ.2.2.2.2.1) :: S) σ Q) : G Θ d mi pc L (.ref 1000 :: S) σ Q := by
  intro p e R s m args below meth c H locs cells slots QQ ls hC hroom hw hP hS hl hret
  have hd := dec_at hok hi hn
  subst hn
  exact va_slen hC.1 hC.2.1 hw.2.2.1.1 hw.2.2.1.2.1 hw.2.2.1.2.2 hS hd (k p e R s m args below meth c H locs cells slots QQ ls hC hroom hw hP hS hl hret)
theorem r_nald {i : Int32} (hok : mc.all (fun q => chkI mi q.1 q.2) = true) (j : Nat) (hi : mc[j]? = some (pc, .laload, nx, u)) (hn : pc + 1 = nx) (hin : vp_in i 16) (k : G Θ d mi nx L (.long (nnV i.toNatClampNeg) :: S) σ Q) : G Θ d mi pc L (.int i :: .ref 1001 :: S) σ Q := by
  intro p e R s m args below meth c H locs cells slots QQ ls hC hroom hw hP hS hl hret
  have hd := dec_at hok hi hn
  subst hn
  exact va_tl hC.1 hC.2.1 hw.2.2.2.2.1 hS hin rfl hd (k p e R s m args below meth c H locs cells slots QQ ls hC hroom hw hP hS hl hret)
theorem r_nlen (hok : mc.all (fun q => chkI mi q.1 q.2) = true) (j : Nat) (hi : mc[j]? = some (pc, .arraylength, nx, u)) (hn : pc + 1 = nx) (k : G Θ d mi nx L (.int 16 :: S) σ Q) : G Θ d mi pc L (.ref 1001 :: S) σ Q := by
  intro p e R s m args below meth c H locs cells slots QQ ls hC hroom hw hP hS hl hret
  have hd := dec_at hok hi hn
  subst hn
  exact va_tlen hC.1 hC.2.1 hw.2.2.2.2.1 hS rfl hd (k p e R s m args below meth c H locs cells slots QQ ls hC hroom hw hP hS hl hret)
end rows
