/-! the links' words, by their places -/
def am_TF (ci : Nat) : u_T := (am_cl.getD ci ("", TX0, 0)).2.1
def am_nf (ci : Nat) : Nat := (am_cl.getD ci ("", TX0, 0)).2.2
def am_FLok (e : Nat × Nat × Nat × Nat × Nat × Nat) : Bool := match e with
  | (o, ix, ci, k, ty, p) => decide (lw_tbl[p]? = some (.fieldLink (am_cn o) ix (am_cn ci) (am_TF ci k).2.1 (am_TF ci k).2.2.1)) && (decide (ci < 10) && (decide (k < am_nf ci) && (decide (k < 64) && (ty == am_fty ci k && decide (ty < 3)))))
theorem am_FL_ok : am_FL.all am_FLok = true := by decide +kernel
def am_MLok (e : Nat × Nat × Nat × Nat × Nat × Nat × Nat) : Bool := match e with
  | (o, ix, y, kind, nest, k, p) => decide ((nest = 0 → lw_tbl[p]? = some (.methodLink (am_cn o) ix (am_ym y).1.1)) ∧ (nest ≠ 0 → lw_tbl[p]? = some (.methodLinkNest (am_cn o) ix (am_ym y).1.1 RX8)) ∧ y < 256 ∧ (y < 10 ∨ 15 < y) ∧ kind < 3 ∧ nest < 2 ∧ k / 1024 = y ∧
    (k / 16 % 64 = if kind = 1 then 63 else (am_ym y).2.1.1) ∧ (kind = 2 → (am_ym y).1.1.name = "<init>" ∧ (am_ym y).1.2.2.2 = none) ∧ (kind = 0 → nest = 0) ∧ (kind ≠ 1 → 0 < k % 16) ∧ k % 16 ≤ (am_ym y).1.2.2.1 ∧
    (parseMethodDescriptor (am_ym y).1.1.desc).map (fun d => d.parameters.length) = some (if kind = 1 then k % 16 else k % 16 - 1) ∧
    (kind = 1 → lw_tbl[(am_ym y).2.2.2.1]? = some (.static (am_ym y).1.1)) ∧ (kind ≠ 1 → lw_tbl[(am_ym y).2.2.2.1]? = some (.instanceMethod (am_ym y).1.1)) ∧ (kind = 0 → lw_tbl[(am_ym y).2.2.2.2.1]? = some (.selects (am_ym y).1.1.cls (am_ym y).1.1 (am_ym y).1.1)))
theorem am_ML_ok0 : (am_ML.take 100).all am_MLok = true := by decide +kernel
theorem am_ML_ok1 : ((am_ML.drop 100).take 100).all am_MLok = true := by decide +kernel
theorem am_ML_ok2 : (am_ML.drop 200).all am_MLok = true := by decide +kernel
theorem am_ML_ok : ∀ e ∈ am_ML, am_MLok e = true := by
  intro e he
  rw [← List.take_append_drop 100 am_ML, List.mem_append] at he
  rcases he with he | he
  · exact List.all_eq_true.mp am_ML_ok0 e he
  · rw [← List.take_append_drop 100 (am_ML.drop 100), List.mem_append, List.drop_drop] at he
    rcases he with he | he
    · exact List.all_eq_true.mp am_ML_ok1 e he
    · exact List.all_eq_true.mp am_ML_ok2 e he
set_option maxRecDepth 1000000 in
set_option maxHeartbeats 4000000 in
theorem am_yc_0 : ((am_ys.drop 0).take 10).map (fun y => lw_tbl[y.2.2.1]?) = ((am_ys.drop 0).take 10).map (fun y => some (Cond.code y.1.1 y.1.2.1 y.1.2.2.1 y.1.2.2.2)) := by rfl
set_option maxRecDepth 1000000 in
set_option maxHeartbeats 4000000 in
theorem am_yc_1 : ((am_ys.drop 16).take 32).map (fun y => lw_tbl[y.2.2.1]?) = ((am_ys.drop 16).take 32).map (fun y => some (Cond.code y.1.1 y.1.2.1 y.1.2.2.1 y.1.2.2.2)) := by rfl
set_option maxRecDepth 1000000 in
set_option maxHeartbeats 4000000 in
theorem am_yc_2 : ((am_ys.drop 48).take 32).map (fun y => lw_tbl[y.2.2.1]?) = ((am_ys.drop 48).take 32).map (fun y => some (Cond.code y.1.1 y.1.2.1 y.1.2.2.1 y.1.2.2.2)) := by rfl
set_option maxRecDepth 1000000 in
set_option maxHeartbeats 4000000 in
theorem am_yc_3 : ((am_ys.drop 80).take 32).map (fun y => lw_tbl[y.2.2.1]?) = ((am_ys.drop 80).take 32).map (fun y => some (Cond.code y.1.1 y.1.2.1 y.1.2.2.1 y.1.2.2.2)) := by rfl
set_option maxRecDepth 1000000 in
set_option maxHeartbeats 4000000 in
theorem am_yc_4 : ((am_ys.drop 112).take 32).map (fun y => lw_tbl[y.2.2.1]?) = ((am_ys.drop 112).take 32).map (fun y => some (Cond.code y.1.1 y.1.2.1 y.1.2.2.1 y.1.2.2.2)) := by rfl
set_option maxRecDepth 1000000 in
set_option maxHeartbeats 4000000 in
theorem am_yc_5 : ((am_ys.drop 144).take 32).map (fun y => lw_tbl[y.2.2.1]?) = ((am_ys.drop 144).take 32).map (fun y => some (Cond.code y.1.1 y.1.2.1 y.1.2.2.1 y.1.2.2.2)) := by rfl
set_option maxRecDepth 1000000 in
set_option maxHeartbeats 4000000 in
theorem am_yc_6 : ((am_ys.drop 176).take 32).map (fun y => lw_tbl[y.2.2.1]?) = ((am_ys.drop 176).take 32).map (fun y => some (Cond.code y.1.1 y.1.2.1 y.1.2.2.1 y.1.2.2.2)) := by rfl
set_option maxRecDepth 1000000 in
set_option maxHeartbeats 4000000 in
theorem am_yc_7 : ((am_ys.drop 208).take 32).map (fun y => lw_tbl[y.2.2.1]?) = ((am_ys.drop 208).take 32).map (fun y => some (Cond.code y.1.1 y.1.2.1 y.1.2.2.1 y.1.2.2.2)) := by rfl
set_option maxRecDepth 1000000 in
set_option maxHeartbeats 4000000 in
theorem am_yc_8 : ((am_ys.drop 240).take 16).map (fun y => lw_tbl[y.2.2.1]?) = ((am_ys.drop 240).take 16).map (fun y => some (Cond.code y.1.1 y.1.2.1 y.1.2.2.1 y.1.2.2.2)) := by rfl
theorem am_ycat {lo n y : Nat} (h : ((am_ys.drop lo).take n).map (fun y => lw_tbl[y.2.2.1]?) = ((am_ys.drop lo).take n).map (fun y => some (Cond.code y.1.1 y.1.2.1 y.1.2.2.1 y.1.2.2.2))) (h1 : lo ≤ y) (h2 : y < lo + n) (h3 : y < am_ys.length) : lw_tbl[(am_ym y).2.2.1]? = some (Cond.code (am_ym y).1.1 (am_ym y).1.2.1 (am_ym y).1.2.2.1 (am_ym y).1.2.2.2) := by
  have e : ((am_ys.drop lo).take n)[y - lo]? = some (am_ym y) := by
    rw [List.getElem?_take_of_lt (by omega), List.getElem?_drop, show lo + (y - lo) = y by omega, am_ym, List.getD_eq_getElem?_getD, List.getElem?_eq_getElem h3]
    rfl
  have h4 := congrArg (fun l => l[y - lo]?) h
  simp only [List.getElem?_map, e, Option.map_some] at h4
  exact Option.some.inj h4
set_option maxRecDepth 1000000 in
theorem am_ylen : am_ys.length = 259 := by rfl
theorem am_Ycode (y : Nat) (hy : y < 256) (hy2 : y < 10 ∨ 15 < y) : lw_tbl[(am_ym y).2.2.1]? = some (Cond.code (am_ym y).1.1 (am_ym y).1.2.1 (am_ym y).1.2.2.1 (am_ym y).1.2.2.2) := by
  have h3 : y < am_ys.length := by rw [am_ylen]; omega
  by_cases h0_ : 0 ≤ y ∧ y < 10
  · exact am_ycat am_yc_0 h0_.1 h0_.2 h3
  by_cases h1_ : 16 ≤ y ∧ y < 48
  · exact am_ycat am_yc_1 h1_.1 h1_.2 h3
  by_cases h2_ : 48 ≤ y ∧ y < 80
  · exact am_ycat am_yc_2 h2_.1 h2_.2 h3
  by_cases h3_ : 80 ≤ y ∧ y < 112
  · exact am_ycat am_yc_3 h3_.1 h3_.2 h3
  by_cases h4_ : 112 ≤ y ∧ y < 144
  · exact am_ycat am_yc_4 h4_.1 h4_.2 h3
  by_cases h5_ : 144 ≤ y ∧ y < 176
  · exact am_ycat am_yc_5 h5_.1 h5_.2 h3
  by_cases h6_ : 176 ≤ y ∧ y < 208
  · exact am_ycat am_yc_6 h6_.1 h6_.2 h3
  by_cases h7_ : 208 ≤ y ∧ y < 240
  · exact am_ycat am_yc_7 h7_.1 h7_.2 h3
  by_cases h8_ : 240 ≤ y ∧ y < 256
  · exact am_ycat am_yc_8 h8_.1 h8_.2 h3
  omega
def am_Yok (y : Nat) : Bool := decide (10 ≤ y ∧ y < 16) || match am_ym y with
  | ((x, _, ml, rt), (o, rc), _, _, _, p4) => decide (lw_tbl[p4]? = some (.initialized x.cls) ∧ x.cls = am_cn o ∧ o < 12 ∧ plainName x.cls = true ∧ (x.cls ≠ "java/lang/invoke/MethodHandle" ∧ x.cls ≠ "java/lang/invoke/VarHandle") ∧ ml ≤ 40) &&
    (match rc with | 0 => decide (rt = none) | 1 => decide (rt = some .int) | 2 => decide (rt = some .boolean) | 3 => decide (rt = some .long) | 4 => (match rt with | some (.object _) => true | _ => false) | _ => false)
theorem am_Y_ok0 : ((List.range 100).map (fun i => i + 0)).all am_Yok = true := by decide +kernel
theorem am_Y_ok1 : ((List.range 100).map (fun i => i + 100)).all am_Yok = true := by decide +kernel
theorem am_Y_ok2 : ((List.range 56).map (fun i => i + 200)).all am_Yok = true := by decide +kernel
theorem am_rg {f : Nat → Bool} {n a y : Nat} (h : ((List.range n).map (fun i => i + a)).all f = true) (h1 : a ≤ y) (h2 : y < a + n) : f y = true :=
  List.all_eq_true.mp h y (List.mem_map.mpr ⟨y - a, List.mem_range.mpr (by omega), by omega⟩)
theorem am_Y_ok (y : Nat) (hy : y < 256) : am_Yok y = true := by
  by_cases h1 : y < 100
  · exact am_rg am_Y_ok0 (by omega) (by omega)
  · by_cases h2 : y < 200
    · exact am_rg am_Y_ok1 (by omega) (by omega)
    · exact am_rg am_Y_ok2 (by omega) (by omega)
theorem am_NL_ok : am_NL.all (fun e => match e with | (o, ix, ci, n, p1, p2, p3) => decide (lw_tbl[p1]? = some (.classLink (am_cn o) ix (am_cn ci))) && (decide (lw_tbl[p2]? = some (.instantiable (am_cn ci) n)) && (decide (lw_tbl[p3]? = some (.initialized (am_cn ci))) && (decide (n = am_nf ci) && (decide (ci < 10) && decide (n < 64)))))) = true := by decide +kernel
def am_en4 (k : Nat) : String := if k = 22 then RX3 else if k = 23 then RX1 else if k = 24 then RX4 else "java/lang/String"
theorem am_AL_ok : am_AL.all (fun e => match e with | (o, ix, k, p1, p2) => decide (lw_tbl[p1]? = some (.classLink (am_cn o) ix (am_en4 k))) && (decide (lw_tbl[p2]? = some (.arrayOver (.object (am_en4 k)))) && decide (22 ≤ k ∧ k ≤ 25))) = true := by decide +kernel
theorem am_OI_ok : am_OI.all (fun e => match e with | (o, ix, p) => decide (lw_tbl[p]? = some (.methodLink (am_cn o) ix Lib.objectInit))) = true := by decide +kernel
theorem am_CP_ok : am_CP.all (fun e => match e with | (o, ix, p) => decide (lw_tbl[p]? = some (.methodLink (am_cn o) ix arraycopyName))) = true := by decide +kernel
theorem am_IC_ok : am_IC.all (fun e => match e with | (o, ix, v, p) => decide (lw_tbl[p]? = some (.constant (am_cn o) ix (Int32.ofInt v)))) = true := by decide +kernel
theorem am_SC_ok : am_SC.all (fun e => match e with | (o, ix, c, p) => decide (lw_tbl[p]? = some (.stringRef (am_cn o) ix (am_tx.getD c ""))) && decide (c < 16)) = true := by decide +kernel
theorem am_ST_ok : am_ST.all (fun e => match e with | (o, ix, p) => decide (lw_tbl[p]? = some (.fieldLinkNest (am_cn o) ix RX8 "KIND_ABOVE" "[I" RX8))) = true := by decide +kernel
def am_slN (k : Nat) : MethodName := if k = 0 then ⟨"java/lang/String", "length", "()I"⟩ else if k = 1 then ⟨"java/lang/String", "charAt", "(I)C"⟩ else if k = 2 then Lib.Math.min.name else Lib.Math.max.name
theorem am_SL_ok : am_SL.all (fun e => match e with | (o, ix, k, p) => decide (lw_tbl[p]? = some (.methodLink (am_cn o) ix (am_slN k))) && decide (k < 4)) = true := by decide +kernel
theorem am_ws_in : ∀ ci, ci < 10 → ∀ w ∈ u_ws (am_cn ci) (am_TF ci) (am_nf ci), w ∈ am_W := by
  intro ci hc
  have : ((List.range 10).map (fun ci => (u_ws (am_cn ci) (am_TF ci) (am_nf ci)).all (fun w => decide (w ∈ lw_tbl) && goodWord w))).all id = true := by decide +kernel
  intro w hw
  have h1 := List.all_eq_true.mp this ((u_ws (am_cn ci) (am_TF ci) (am_nf ci)).all (fun w => decide (w ∈ lw_tbl) && goodWord w)) (List.mem_map.mpr ⟨ci, List.mem_range.mpr hc, rfl⟩)
  have h2 := List.all_eq_true.mp h1 w hw
  simp only [Bool.and_eq_true, decide_eq_true_eq] at h2
  exact List.mem_filter.mpr h2
theorem am_cl_at : ∀ ci, ci < 10 → am_cl[ci]? = some (am_cn ci, am_TF ci, am_nf ci) := by
  intro ci hc
  have h : ∀ z ∈ List.range 10, am_cl[z]? = some (am_cn z, am_TF z, am_nf z) := by
    intro z hz
    have hz := List.mem_range.mp hz
    rcases (show z = 0 ∨ z = 1 ∨ z = 2 ∨ z = 3 ∨ z = 4 ∨ z = 5 ∨ z = 6 ∨ z = 7 ∨ z = 8 ∨ z = 9 by omega) with rfl | rfl | rfl | rfl | rfl | rfl | rfl | rfl | rfl | rfl <;> rfl
  exact h ci (List.mem_range.mpr hc)
