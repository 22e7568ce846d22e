/-! cells: fields, rows, constants, new ones -/
def am_tyf (ci : Nat) : Nat → FieldType := match ci with
  | 0 => tyX0
  | 1 => tyX1
  | 2 => tyX2
  | 3 => tyX3
  | 4 => tyX4
  | 5 => tyX5
  | 6 => tyX6
  | 7 => tyX7
  | 8 => tyX8
  | _ => tyX9
theorem am_tyok : ∀ ci, ci < 10 → ∀ k, k < am_nf ci → parseFieldDescriptor (am_TF ci k).2.2.1 = some (am_tyf ci k) := by
  intro ci hc
  rcases (show ci = 0 ∨ ci = 1 ∨ ci = 2 ∨ ci = 3 ∨ ci = 4 ∨ ci = 5 ∨ ci = 6 ∨ ci = 7 ∨ ci = 8 ∨ ci = 9 by omega) with rfl | rfl | rfl | rfl | rfl | rfl | rfl | rfl | rfl | rfl
  · exact tyX0_ok
  · exact tyX1_ok
  · exact tyX2_ok
  · exact tyX3_ok
  · exact tyX4_ok
  · exact tyX5_ok
  · exact tyX6_ok
  · exact tyX7_ok
  · exact tyX8_ok
  · exact tyX9_ok
theorem am_nmok : ∀ ci, ci < 10 → ∀ a, a < am_nf ci → ∀ b, b < am_nf ci → a ≠ b → (am_TF ci a).2.1 ≠ (am_TF ci b).2.1 := by
  intro ci hc
  rcases (show ci = 0 ∨ ci = 1 ∨ ci = 2 ∨ ci = 3 ∨ ci = 4 ∨ ci = 5 ∨ ci = 6 ∨ ci = 7 ∨ ci = 8 ∨ ci = 9 by omega) with rfl | rfl | rfl | rfl | rfl | rfl | rfl | rfl | rfl | rfl
  · exact nmX0
  · exact nmX1
  · exact nmX2
  · exact nmX3
  · exact nmX4
  · exact nmX5
  · exact nmX6
  · exact nmX7
  · exact nmX8
  · exact nmX9
theorem am_ftok0 : (List.range 10).all (fun ci => (List.range (am_nf ci)).all (fun k => decide ((am_TF ci k).1 = am_cn ci) && (((am_fin.getD ci []).getD k true) == (am_TF ci k).2.2.2) && (match am_fty ci k with | 0 => decide (am_tyf ci k = .int) | 1 => decide (am_tyf ci k = .boolean) | 2 => (match am_tyf ci k with | .object _ => true | .array _ => true | _ => false) | _ => false))) = true := by decide +kernel
theorem am_ftok {ci k : Nat} (hc : ci < 10) (hk : k < am_nf ci) : (am_TF ci k).1 = am_cn ci ∧ ((am_fin.getD ci []).getD k true) = (am_TF ci k).2.2.2 ∧ (am_fty ci k = 0 → am_tyf ci k = .int) ∧ (am_fty ci k = 1 → am_tyf ci k = .boolean) ∧ (am_fty ci k = 2 → (∃ n, am_tyf ci k = .object n) ∨ ∃ t, am_tyf ci k = .array t) ∧ am_fty ci k < 3 := by
  have h := List.all_eq_true.mp (List.all_eq_true.mp am_ftok0 ci (List.mem_range.mpr hc)) k (List.mem_range.mpr hk)
  simp only [Bool.and_eq_true, decide_eq_true_eq, beq_iff_eq] at h
  obtain ⟨⟨h1, h2⟩, h3⟩ := h
  refine ⟨h1, h2, fun h => ?_, fun h => ?_, fun h => ?_, ?_⟩
  · rw [h] at h3; simpa using h3
  · rw [h] at h3; simpa using h3
  · rw [h] at h3
    cases ht : am_tyf ci k <;> rw [ht] at h3 <;> first | exact Or.inl ⟨_, rfl⟩ | exact Or.inr ⟨_, rfl⟩ | (simp at h3)
  · rcases (show am_fty ci k = 0 ∨ am_fty ci k = 1 ∨ am_fty ci k = 2 ∨ 3 ≤ am_fty ci k by omega) with q | q | q | q
    · omega
    · omega
    · omega
    · exfalso
      split at h3 <;> first | omega | cases h3
theorem am_hw {args : Array Value} {s : State} {w : Cond} {p : Nat} (h : ∀ w ∈ am_W, w.before args s = true) (hp : lw_tbl[p]? = some w) (hg : goodWord w = true) : w.before args s = true :=
  h w (List.mem_filter.mpr ⟨List.mem_of_getElem? hp, hg⟩)
theorem am_mset {α : Type} (f : Nat → α) (n k : Nat) (v : α) (g : Nat → α) (hg : ∀ j, g j = if j = k then v else f j) : ((List.range n).map f).set k v = (List.range n).map g := by
  apply List.ext_getElem?
  intro j
  by_cases hj : j < n
  · by_cases hk : j = k
    · subst hk
      rw [List.getElem?_set_self (by simpa using hj), List.getElem?_map, List.getElem?_range hj]
      simp [hg]
    · rw [List.getElem?_set_ne (Ne.symm hk), List.getElem?_map, List.getElem?_map, List.getElem?_range hj]
      simp [hg, hk]
  · rw [List.getElem?_eq_none (by simp; omega), List.getElem?_eq_none (by simp; omega)]

section AMH
variable {p : Program} {l : Launch} {e : Env} {R : Room} {s : State} {m : MethodId} {args : Array Value} {below : List Frame} {meth : Method} {c : Code} {Q : State → Prop}
variable {S0 : State} {b : Nat} {cs : Nat → Nat × (Nat → Int32)} {sc : Nat → Nat} {D : va_G} {cA : Nat → ClassId} {M0 M : am_M} {cc : ByteArray} {nL o pc a : Nat} {lv : am_L} {st : List Value} {x y : Int32}
theorem am_FLat {ix ci k ty q : Nat} (hts : ∀ w ∈ am_W, w.before args s = true) (he : (o, ix, ci, k, ty, q) ∈ am_FL) : (Cond.fieldLink (am_cn o) ix (am_cn ci) (am_TF ci k).2.1 (am_TF ci k).2.2.1).before args s = true ∧ ci < 10 ∧ k < am_nf ci ∧ k < 64 ∧ ty = am_fty ci k ∧ ty < 3 := by
  have h := List.all_eq_true.mp am_FL_ok _ he
  simp only [am_FLok, Bool.and_eq_true, decide_eq_true_eq, beq_iff_eq] at h
  obtain ⟨h1, h2, h3, h4, h5, h6⟩ := h
  exact ⟨am_hw hts h1 (by first | rfl | simp [goodWord, Cond.onTables, Cond.keeps, Cond.steady]), h2, h3, h4, h5, h6⟩
theorem am_fvat {ci k : Nat} (hk : k < am_nf ci) : ((List.range (am_nf ci)).map (am_fv b sc M a ci))[k]? = some (am_fv b sc M a ci k) := by
  rw [List.getElem?_map, List.getElem?_range hk]; rfl
theorem am_i_getfield {ix ci k ty q : Nat} {v : Value} (G : am_G p s m args c S0 b cs sc D cA M0 cc nL o) (hd : decode cc pc = .ok (.getfield ix, 3)) (he : (o, ix, ci, k, ty, q) ∈ am_FL) (hsh : (M.2.2.1 a).1 = ci) (hv : am_fv b sc M a ci k = am_rl b sc v) (h : (am_X p l e R s m args below meth c Q b sc D cA M0 nL) (pc + 3) lv (v :: st) M) : (am_X p l e R s m args below meth c Q b sc D cA M0 nL) pc lv (.ref a :: st) M := by
  intro H locs cells slots ls hP hS hs hc hn hl
  obtain ⟨hx, hb, hm, ho, hts, hcst, -⟩ := G
  obtain ⟨hw, h10, hk, -⟩ := am_FLat hts he
  have hlt : am_lo a < M.1 := am_lt hs (by rw [hsh]; omega)
  have hat : (am_ws b sc cA M)[am_lo a]? = some (b + am_lo a, .inr (ci, (List.range (am_nf ci)).map (am_fv b sc M a ci))) := by
    rw [am_ws_at hlt, am_en_o (by rw [hsh]; omega), hsh]
  refine va_get (C := am_cn ci) (T := am_TF ci) (N := am_nf ci) (v := am_rl b sc v) hx hb hts (am_ws_in ci h10) ho hcst.1 hP (am_lo a) hat (am_cl_at ci h10) k hk hw ?_ ((am_fvat hk).trans (by rw [hv])) hd (h H locs cells slots ls hP hS hs hc hn hl)
  rw [(am_ftok h10 hk).1]
  exact fun _ h => h
theorem am_i_putfield {ix ci k ty q : Nat} {v : Value} {M' : am_M} (G : am_G p s m args c S0 b cs sc D cA M0 cc nL o) (hd : decode cc pc = .ok (.putfield ix, 3)) (he : (o, ix, ci, k, ty, q) ∈ am_FL) (hfin : (am_TF ci k).2.2.2 = false ∨ (meth.name = "<init>" ∧ am_cn ci = am_cn o)) (hsh : (M.2.2.1 a).1 = ci) (hn1 : narrow (am_tyf ci k) (am_rl b sc v) = am_rl b sc v) (hn2 : fits (am_tyf ci k) (am_rl b sc v) = true)
    (m1 : M'.1 = M.1) (m2 : M'.2.1 = M.2.1) (m3 : M'.2.2.1 = M.2.2.1) (mo : ∀ q, q ≠ a → am_en b sc cA M' q = am_en b sc cA M q) (mv : ∀ j, am_fv b sc M' a ci j = if j = k then am_rl b sc v else am_fv b sc M a ci j) (h : (am_X p l e R s m args below meth c Q b sc D cA M0 nL) (pc + 3) lv st M') : (am_X p l e R s m args below meth c Q b sc D cA M0 nL) pc lv (v :: .ref a :: st) M := by
  intro H locs cells slots ls hP hS hs hc hn hl
  obtain ⟨hx, hb, hm, ho, hts, hcst, -⟩ := G
  obtain ⟨hw, h10, hk, -⟩ := am_FLat hts he
  have hlt : am_lo a < M.1 := am_lt hs (by rw [hsh]; omega)
  have hat : (am_ws b sc cA M)[am_lo a]? = some (b + am_lo a, .inr (ci, (List.range (am_nf ci)).map (am_fv b sc M a ci))) := by
    rw [am_ws_at hlt, am_en_o (by rw [hsh]; omega), hsh]
  have hset : (am_ws b sc cA M).set (am_lo a) (b + am_lo a, .inr (ci, ((List.range (am_nf ci)).map (am_fv b sc M a ci)).set k (am_rl b sc v))) = am_ws b sc cA M' := by
    have e : am_en b sc cA M' a = .inr (ci, ((List.range (am_nf ci)).map (am_fv b sc M a ci)).set k (am_rl b sc v)) := by
      rw [am_en_o (by rw [m3, hsh]; omega), m3, hsh, am_mset _ _ _ _ _ mv]
    rw [← e]
    exact am_ws_set m1 mo
  have hsm : ∀ x, s.fieldFound? (am_TF ci k).1 (am_TF ci k).2.1 (am_TF ci k).2.2.1 = some x → s.fieldFound? (am_cn ci) (am_TF ci k).2.1 (am_TF ci k).2.2.1 = some x := by
    rw [(am_ftok h10 hk).1]
    exact fun _ h => h
  have kk : ∀ (H1 : Heap) (locs1 : List Loc), va_P D am_cl ((am_ws b sc cA M).set (am_lo a) (b + am_lo a, .inr (ci, ((List.range (am_nf ci)).map (am_fv b sc M a ci)).set k (am_rl b sc v)))) H1 → va_D (am_A b) ((am_ws b sc cA M).set (am_lo a) (b + am_lo a, .inr (ci, ((List.range (am_nf ci)).map (am_fv b sc M a ci)).set k (am_rl b sc v)))) → va_S (am_A b) s.heap H1 locs1 → W p l e R s m args below meth c H1 locs1 cells slots Q (F0 m (pc + 3) ls (st.map (am_rl b sc))) := by
    intro H1 locs1 hP1 _ hS1
    rw [hset] at hP1
    have hs' : am_sh M' := by
      unfold am_sh
      rw [m1, m3]
      exact hs
    exact h H1 locs1 cells slots ls hP1 hS1 hs' (by rw [m1]; exact hc) (by rw [m2]; exact hn) hl
  by_cases hf : (am_TF ci k).2.2.2 = false
  · exact va_put (C := am_cn ci) (T := am_TF ci) (N := am_nf ci) (v := am_rl b sc v) hx hb hts (am_ws_in ci h10) (am_tyf ci) (am_tyok ci h10) (am_nmok ci h10) ho hcst.1 hP am_DD hS (am_lo a) hat (am_cl_at ci h10) k hk hw hsm hf (am_tyok ci h10 k hk) hn1 hn2 (by simpa using hk) hd kk
  · obtain ⟨hin, hco⟩ := hfin.resolve_left hf
    exact va_putF (C := am_cn ci) (T := am_TF ci) (N := am_nf ci) (v := am_rl b sc v) hx hb hts (am_ws_in ci h10) (am_tyf ci) (am_tyok ci h10) (am_nmok ci h10) ho hcst.1 hP am_DD hS (am_lo a) hat (am_cl_at ci h10) k hk hw hsm (by simpa using hf) hin ((am_ftok h10 hk).1.trans hco) (am_tyok ci h10 k hk) hn1 hn2 (by simpa using hk) hd kk
theorem am_i_iaload (G : am_G p s m args c S0 b cs sc D cA M0 cc nL o) (hd : decode cc pc = .ok (.iaload, 1)) (hsh : (M.2.2.1 a).1 = 20) (hin : vp_in x (M.2.2.1 a).2) (h : (am_X p l e R s m args below meth c Q b sc D cA M0 nL) (pc + 1) lv (.int (M.2.2.2.1 a x.toNatClampNeg) :: st) M) : (am_X p l e R s m args below meth c Q b sc D cA M0 nL) pc lv (.int x :: .ref a :: st) M := by
  intro H locs cells slots ls hP hS hs hc hn hl
  have hlt : am_lo a < M.1 := am_lt hs (by rw [hsh]; omega)
  exact va_iald G.1 G.2.1 G.2.2.2.2.2.1.1 hP (am_lo a) 0 ((am_ws_at hlt).trans (by rw [am_en_i hsh (by omega) (by omega)])) rfl hin hd (h H locs cells slots ls hP hS hs hc hn hl)
theorem am_i_baload (G : am_G p s m args c S0 b cs sc D cA M0 cc nL o) (hd : decode cc pc = .ok (.baload, 1)) (hsh : (M.2.2.1 a).1 = 21) (hin : vp_in x (M.2.2.1 a).2) (h : (am_X p l e R s m args below meth c Q b sc D cA M0 nL) (pc + 1) lv (.int (M.2.2.2.1 a x.toNatClampNeg) :: st) M) : (am_X p l e R s m args below meth c Q b sc D cA M0 nL) pc lv (.int x :: .ref a :: st) M := by
  intro H locs cells slots ls hP hS hs hc hn hl
  have hlt : am_lo a < M.1 := am_lt hs (by rw [hsh]; omega)
  exact va_bald G.1 G.2.1 G.2.2.2.2.2.1.1 hP (am_lo a) 1 ((am_ws_at hlt).trans (by rw [am_en_i hsh (by omega) (by omega)])) rfl hin hd (h H locs cells slots ls hP hS hs hc hn hl)
theorem am_si_i {k : Nat} : (am_si M a k x).2.2.2.1 a = upd (M.2.2.2.1 a) k x := by
  funext j
  simp [am_si, upd]
theorem am_si_sh {k : Nat} (hs : am_sh M) : am_sh (am_si M a k x) := hs
theorem am_sr_sh {k : Nat} {v : Value} (hs : am_sh M) : am_sh (am_sr M a k v) := hs
theorem am_i_iastore (G : am_G p s m args c S0 b cs sc D cA M0 cc nL o) (hd : decode cc pc = .ok (.iastore, 1)) (hsh : (M.2.2.1 a).1 = 20) (hin : vp_in x (M.2.2.1 a).2) (h : (am_X p l e R s m args below meth c Q b sc D cA M0 nL) (pc + 1) lv st (am_si M a x.toNatClampNeg y)) : (am_X p l e R s m args below meth c Q b sc D cA M0 nL) pc lv (.int y :: .int x :: .ref a :: st) M := by
  intro H locs cells slots ls hP hS hs hc hn hl
  have hlt : am_lo a < M.1 := am_lt hs (by rw [hsh]; omega)
  refine va_iast G.1 G.2.1 G.2.2.2.2.2.1.1 hP am_DD hS (am_lo a) 0 ((am_ws_at hlt).trans (by rw [am_en_i hsh (by omega) (by omega)])) rfl hin hd (fun H1 locs1 hP1 _ hS1 => ?_)
  have e : am_en b sc cA (am_si M a x.toNatClampNeg y) a = .inl (cA 20, (M.2.2.1 a).2, .inl (upd (M.2.2.2.1 a) x.toNatClampNeg y)) := by
    rw [am_en_i (M := am_si M a x.toNatClampNeg y) (k := 20) hsh (by omega) (by omega), am_si_i]; rfl
  rw [← e, am_ws_set (M := M) (M' := am_si M a x.toNatClampNeg y) rfl am_si_en] at hP1
  exact h H1 locs1 cells slots ls hP1 hS1 (am_si_sh hs) hc hn hl
theorem am_i_bastore (G : am_G p s m args c S0 b cs sc D cA M0 cc nL o) (hd : decode cc pc = .ok (.bastore, 1)) (hsh : (M.2.2.1 a).1 = 21) (hin : vp_in x (M.2.2.1 a).2) (h : (am_X p l e R s m args below meth c Q b sc D cA M0 nL) (pc + 1) lv st (am_si M a x.toNatClampNeg (vp_nar .byte y))) : (am_X p l e R s m args below meth c Q b sc D cA M0 nL) pc lv (.int y :: .int x :: .ref a :: st) M := by
  intro H locs cells slots ls hP hS hs hc hn hl
  have hlt : am_lo a < M.1 := am_lt hs (by rw [hsh]; omega)
  refine va_bast G.1 G.2.1 G.2.2.2.2.2.1.1 hP am_DD hS (am_lo a) 1 ((am_ws_at hlt).trans (by rw [am_en_i hsh (by omega) (by omega)])) rfl hin hd (fun H1 locs1 hP1 _ hS1 => ?_)
  have e : am_en b sc cA (am_si M a x.toNatClampNeg (vp_nar .byte y)) a = .inl (cA 21, (M.2.2.1 a).2, .inl (upd (M.2.2.2.1 a) x.toNatClampNeg (vp_nar .byte y))) := by
    rw [am_en_i (M := am_si M a x.toNatClampNeg (vp_nar .byte y)) (k := 21) hsh (by omega) (by omega), am_si_i]; rfl
  rw [← e, am_ws_set (M := M) (M' := am_si M a x.toNatClampNeg (vp_nar .byte y)) rfl am_si_en] at hP1
  exact h H1 locs1 cells slots ls hP1 hS1 (am_si_sh hs) hc hn hl
theorem am_tyq {k : Nat} (h1 : 22 ≤ k) (h2 : k ≤ 25) : (am_tys cA)[k - 20]? = some (cA k, .object (am_en4 k)) := by
  rcases (show k = 22 ∨ k = 23 ∨ k = 24 ∨ k = 25 by omega) with rfl | rfl | rfl | rfl <;> rfl
theorem am_i_aaload {v : Value} (G : am_G p s m args c S0 b cs sc D cA M0 cc nL o) (hd : decode cc pc = .ok (.aaload, 1)) (h1 : 22 ≤ (M.2.2.1 a).1) (h2 : (M.2.2.1 a).1 ≤ 25) (hin : vp_in x (M.2.2.1 a).2) (hv : M.2.2.2.2 a x.toNatClampNeg = v) (hr : (∃ z, v = .ref z) ∨ ∃ z, v = .retAddr z) (h : (am_X p l e R s m args below meth c Q b sc D cA M0 nL) (pc + 1) lv (v :: st) M) : (am_X p l e R s m args below meth c Q b sc D cA M0 nL) pc lv (.int x :: .ref a :: st) M := by
  intro H locs cells slots ls hP hS hs hc hn hl
  have hlt : am_lo a < M.1 := am_lt hs (by omega)
  refine va_aldq G.1 G.2.1 G.2.2.2.2.2.1.1 hP (am_lo a) ((M.2.2.1 a).1 - 20) ((am_ws_at hlt).trans (by rw [am_en_q rfl h1])) (am_tyq h1 h2) hin hd ?_
  have e : va_rf (am_ro b sc (M.2.2.2.2 a x.toNatClampNeg)) = am_rl b sc v := by
    rw [hv]
    rcases hr with ⟨z, rfl⟩ | ⟨z, rfl⟩ <;> rfl
  rw [e]
  exact h H locs cells slots ls hP hS hs hc hn hl
theorem am_i_alen (G : am_G p s m args c S0 b cs sc D cA M0 cc nL o) (hd : decode cc pc = .ok (.arraylength, 1)) (h1 : 20 ≤ (M.2.2.1 a).1) (h2 : (M.2.2.1 a).1 ≤ 25) (h : (am_X p l e R s m args below meth c Q b sc D cA M0 nL) (pc + 1) lv (.int (Int32.ofNat (M.2.2.1 a).2) :: st) M) : (am_X p l e R s m args below meth c Q b sc D cA M0 nL) pc lv (.ref a :: st) M := by
  intro H locs cells slots ls hP hS hs hc hn hl
  have hlt : am_lo a < M.1 := am_lt hs (by omega)
  by_cases hk : (M.2.2.1 a).1 < 22
  · rcases (show (M.2.2.1 a).1 = 20 ∨ (M.2.2.1 a).1 = 21 by omega) with hk | hk
    · exact va_alen (x := ((M.2.2.1 a).2, .inl (M.2.2.2.1 a))) G.1 G.2.1 G.2.2.2.2.2.1.1 hP (am_lo a) 0 ((am_ws_at hlt).trans (by rw [am_en_i hk (by omega) (by omega)])) rfl rfl hd (h H locs cells slots ls hP hS hs hc hn hl)
    · exact va_alen (x := ((M.2.2.1 a).2, .inl (M.2.2.2.1 a))) G.1 G.2.1 G.2.2.2.2.2.1.1 hP (am_lo a) 1 ((am_ws_at hlt).trans (by rw [am_en_i hk (by omega) (by omega)])) rfl rfl hd (h H locs cells slots ls hP hS hs hc hn hl)
  · exact va_alen (x := ((M.2.2.1 a).2, .inr (.inr (.inr (.inr (fun j => am_ro b sc (M.2.2.2.2 a j))))))) G.1 G.2.1 G.2.2.2.2.2.1.1 hP (am_lo a) ((M.2.2.1 a).1 - 20) ((am_ws_at hlt).trans (by rw [am_en_q rfl (by omega)])) (am_tyq (by omega) h2) rfl hd (h H locs cells slots ls hP hS hs hc hn hl)
theorem am_i_aastore {v : Value} {w : Nat} (G : am_G p s m args c S0 b cs sc D cA M0 cc nL o) (hd : decode cc pc = .ok (.aastore, 1)) (h1 : 22 ≤ (M.2.2.1 a).1) (h2 : (M.2.2.1 a).1 ≤ 25) (hin : vp_in x (M.2.2.1 a).2) (hv : am_rl b sc v = .ref w) (hw : am_ro b sc v = some w) (hany : ∀ H locs, va_P D am_cl (am_ws b sc cA M) H → va_S (am_A b) s.heap H locs → am_sh M → va_Any (am_en4 (M.2.2.1 a).1) s H w) (h : (am_X p l e R s m args below meth c Q b sc D cA M0 nL) (pc + 1) lv st (am_sr M a x.toNatClampNeg v)) : (am_X p l e R s m args below meth c Q b sc D cA M0 nL) pc lv (v :: .int x :: .ref a :: st) M := by
  intro H locs cells slots ls hP hS hs hc hn hl
  have hlt : am_lo a < M.1 := am_lt hs (by omega)
  show W p l e R s m args below meth c H locs cells slots Q (F0 m pc ls (am_rl b sc v :: .int x :: .ref (b + am_lo a) :: st.map (am_rl b sc)))
  rw [hv]
  refine va_astqM G.1 G.2.1 G.2.2.2.2.2.1.1 hP am_DD hS (am_lo a) ((M.2.2.1 a).1 - 20) ((am_ws_at hlt).trans (by rw [am_en_q rfl h1])) (am_tyq h1 h2) (hany H locs hP hS hs) hin hd (fun H1 locs1 hP1 _ hS1 => ?_)
  have e : am_en b sc cA (am_sr M a x.toNatClampNeg v) a = .inl (cA (M.2.2.1 a).1, (M.2.2.1 a).2, .inr (.inr (.inr (.inr (va_up (fun j => am_ro b sc (M.2.2.2.2 a j)) x.toNatClampNeg (some w)))))) := by
    have e1 : (fun j => am_ro b sc ((am_sr M a x.toNatClampNeg v).2.2.2.2 a j)) = va_up (fun j => am_ro b sc (M.2.2.2.2 a j)) x.toNatClampNeg (some w) := by
      funext j
      by_cases hj : j = x.toNatClampNeg <;> simp [am_sr, va_up, hj, hw]
    rw [am_en_q (M := am_sr M a x.toNatClampNeg v) (k := (M.2.2.1 a).1) rfl h1, e1]; rfl
  rw [← e, am_ws_set (M := M) (M' := am_sr M a x.toNatClampNeg v) rfl am_sr_en] at hP1
  exact h H1 locs1 cells slots ls hP1 hS1 (am_sr_sh hs) hc hn hl
/-- constants: the static row, the script -/
theorem am_kept (G : am_G p s m args c S0 b cs sc D cA M0 cc nL o) : ∀ q : Nat, q < S0.heap.size → ¬ am_A b q → s.heap[q]? = S0.heap[q]? := fun q _ h => G.2.2.2.2.2.2.1 q (by unfold am_A at h; omega)
theorem am_i_caload {k : Nat} (G : am_G p s m args c S0 b cs sc D cA M0 cc nL o) (hd : decode cc pc = .ok (.iaload, 1)) (hk : 16 ≤ k) (hk2 : k < 18) (hin : vp_in x (cs k).1) (h : (am_X p l e R s m args below meth c Q b sc D cA M0 nL) (pc + 1) lv (.int ((cs k).2 x.toNatClampNeg) :: st) M) : (am_X p l e R s m args below meth c Q b sc D cA M0 nL) pc lv (.int x :: .retAddr k :: st) M := by
  intro H locs cells slots ls hP hS hs hc hn hl
  rcases (show k = 16 ∨ k = 17 by omega) with rfl | rfl
  · exact va_ti G.1 G.2.1 (G.2.2.2.2.2.1.2.2.1.kept (am_kept G)) hS hin rfl hd (h H locs cells slots ls hP hS hs hc hn hl)
  · have hX := G.2.2.2.2.2.1.2.2.2.1
    have hb17 := G.2.2.2.2.2.1.2.2.2.2.1
    exact va_sld G.1 G.2.1 (hX.kept (G.2.2.2.2.2.2.1 _ hb17)) (by have := G.2.2.2.2.2.2.2; omega) (fun q => by unfold am_A at q; omega) hS hin hd (h H locs cells slots ls hP hS hs hc hn hl)
theorem am_i_clen (G : am_G p s m args c S0 b cs sc D cA M0 cc nL o) (hd : decode cc pc = .ok (.arraylength, 1)) (h : (am_X p l e R s m args below meth c Q b sc D cA M0 nL) (pc + 1) lv (.int (Int32.ofNat (cs 17).1) :: st) M) : (am_X p l e R s m args below meth c Q b sc D cA M0 nL) pc lv (.retAddr 17 :: st) M := by
  intro H locs cells slots ls hP hS hs hc hn hl
  have hX := G.2.2.2.2.2.1.2.2.2.1
  have hb17 := G.2.2.2.2.2.1.2.2.2.2.1
  exact va_slen G.1 G.2.1 (hX.kept (G.2.2.2.2.2.2.1 _ hb17)) (by have := G.2.2.2.2.2.2.2; omega) (fun q => by unfold am_A at q; omega) hS hd (h H locs cells slots ls hP hS hs hc hn hl)
theorem am_i_getstatic {ix q : Nat} (G : am_G p s m args c S0 b cs sc D cA M0 cc nL o) (hd : decode cc pc = .ok (.getstatic ix, 3)) (he : (o, ix, q) ∈ am_ST) (h : (am_X p l e R s m args below meth c Q b sc D cA M0 nL) (pc + 3) lv (.retAddr 16 :: st) M) : (am_X p l e R s m args below meth c Q b sc D cA M0 nL) pc lv st M := by
  intro H locs cells slots ls hP hS hs hc hn hl
  exact va_getsN G.1 G.2.1 (G.2.2.2.2.2.1.2.1.kept (am_kept G)) hS G.2.2.2.1 (va_Nw.use rfl (G.2.2.2.2.2.1.2.2.2.2.2.2.2.2.1 _ he)) (fun _ h => h) hd (h H locs cells slots ls hP hS hs hc hn hl)
theorem am_i_ldcS {ix k q : Nat} (G : am_G p s m args c S0 b cs sc D cA M0 cc nL o) (hd : decode cc pc = .ok (.ldc ix, 2)) (he : (o, ix, k, q) ∈ am_SC) (h : (am_X p l e R s m args below meth c Q b sc D cA M0 nL) (pc + 2) lv (.retAddr k :: st) M) : (am_X p l e R s m args below meth c Q b sc D cA M0 nL) pc lv st M := by
  intro H locs cells slots ls hP hS hs hc hn hl
  have hZ := G.2.2.2.2.2.1.2.2.2.2.2.1 (o, ix, k, q) he
  dsimp only at hZ
  generalize am_tx.getD k "" = tx at hZ
  exact va_ldcS (q := sc k) G.1 G.2.1 G.2.2.2.1 hZ hd (h H locs cells slots ls hP hS hs hc hn hl)
theorem am_i_ldcwS {ix k q : Nat} (G : am_G p s m args c S0 b cs sc D cA M0 cc nL o) (hd : decode cc pc = .ok (.ldc_w ix, 3)) (he : (o, ix, k, q) ∈ am_SC) (h : (am_X p l e R s m args below meth c Q b sc D cA M0 nL) (pc + 3) lv (.retAddr k :: st) M) : (am_X p l e R s m args below meth c Q b sc D cA M0 nL) pc lv st M := by
  intro H locs cells slots ls hP hS hs hc hn hl T hT X
  have hZ := G.2.2.2.2.2.1.2.2.2.2.2.1 (o, ix, k, q) he
  dsimp only at hZ
  generalize am_tx.getD k "" = tx at hZ
  have hb := G.2.1
  obtain ⟨t, a1, b1⟩ := h H locs cells slots ls hP hS hs hc hn hl T hT X
  exact ⟨t, X.ldcStringW G.1 G.2.2.2.1 (text := tx) (a := sc k) hZ.1 hZ.2 (g := F0 m pc ls (st.map (am_rl b sc))) rfl (by rw [hb]; exact hd) t a1, b1⟩
theorem am_i_ldcI {ix q : Nat} {v : Int} (G : am_G p s m args c S0 b cs sc D cA M0 cc nL o) (hd : decode cc pc = .ok (.ldc ix, 2)) (he : (o, ix, v, q) ∈ am_IC) (h : (am_X p l e R s m args below meth c Q b sc D cA M0 nL) (pc + 2) lv (.int (Int32.ofInt v) :: st) M) : (am_X p l e R s m args below meth c Q b sc D cA M0 nL) pc lv st M := by
  intro H locs cells slots ls hP hS hs hc hn hl
  have hw := List.all_eq_true.mp am_IC_ok _ he
  simp only [decide_eq_true_eq] at hw
  exact lv_ldc G.1 G.2.1 G.2.2.2.1 (am_hw G.2.2.2.2.1 hw (by first | rfl | simp [goodWord, Cond.onTables, Cond.keeps, Cond.steady])) hd (h H locs cells slots ls hP hS hs hc hn hl)
theorem am_i_ldcwI {ix q : Nat} {v : Int} (G : am_G p s m args c S0 b cs sc D cA M0 cc nL o) (hd : decode cc pc = .ok (.ldc_w ix, 3)) (he : (o, ix, v, q) ∈ am_IC) (h : (am_X p l e R s m args below meth c Q b sc D cA M0 nL) (pc + 3) lv (.int (Int32.ofInt v) :: st) M) : (am_X p l e R s m args below meth c Q b sc D cA M0 nL) pc lv st M := by
  intro H locs cells slots ls hP hS hs hc hn hl
  have hw := List.all_eq_true.mp am_IC_ok _ he
  simp only [decide_eq_true_eq] at hw
  exact lv_ldcw G.1 G.2.1 G.2.2.2.1 (am_hw G.2.2.2.2.1 hw (by first | rfl | simp [goodWord, Cond.onTables, Cond.keeps, Cond.steady])) hd (h H locs cells slots ls hP hS hs hc hn hl)

/-- where a new cell comes to lie -/
theorem am_newat {H1 : Heap} {q cells : Nat} {E : va_E} (hz : b + M.1 = s.heap.size + cells) (hP : va_P D am_cl (am_ws b sc cA M ++ [(q, E)]) H1) (hD : va_D (am_A b) (am_ws b sc cA M ++ [(q, E)])) (hs1 : H1.size ≤ s.heap.size + (cells + 1)) : q = b + M.1 := by
  have hl : (am_ws b sc cA M).length = M.1 := by simp [am_ws]
  have e1 : (am_ws b sc cA M ++ [(q, E)])[M.1]? = some (q, E) := by
    rw [List.getElem?_append_right (by omega), hl, Nat.sub_self]; rfl
  have h1 : q < H1.size := (hP M.1 _ e1).lt
  have h2 : b ≤ q := hD.2 M.1 _ e1
  by_cases h3 : q < b + M.1
  · exfalso
    have e2 : (am_ws b sc cA M ++ [(q, E)])[q - b]? = some (b + (q - b), am_en b sc cA M (am_nx (q - b))) := by
      rw [List.getElem?_append_left (by omega)]
      exact am_ws_n (by omega)
    have := hD.1 (q - b) M.1 _ _ e2 e1 (by simp only; omega)
    omega
  · omega
theorem am_i_new {ix ci n q1 q2 q3 : Nat} (G : am_G p s m args c S0 b cs sc D cA M0 cc nL o) (hd : decode cc pc = .ok (.new ix, 3)) (he : (o, ix, ci, n, q1, q2, q3) ∈ am_NL) (hc1 : M.1 + 1 ≤ M0.1 + R.cells) (hs1 : M.2.1 + n ≤ M0.2.1 + R.slots) (h : (am_X p l e R s m args below meth c Q b sc D cA M0 nL) (pc + 3) lv (.ref (am_nx M.1) :: st) (am_nw M (ci, n) n)) : (am_X p l e R s m args below meth c Q b sc D cA M0 nL) pc lv st M := by
  intro H locs cells slots ls hP hS hs hc hn hl
  obtain ⟨hx, hb, hm, ho, hts, hcst, hq0, hsz⟩ := G
  have hw := List.all_eq_true.mp am_NL_ok _ he
  simp only [Bool.and_eq_true, decide_eq_true_eq] at hw
  obtain ⟨w1, w2, w3, w4, w5, w6⟩ := hw
  subst w4
  have hfs : ∀ j, j < am_nf ci → defaultValue (am_tyf ci j) = vp_V ((List.range (am_nf ci)).map (am_fv b sc (am_nw M (ci, am_nf ci) (am_nf ci)) (am_nx M.1) ci)) j := by
    intro j hj
    have e : vp_V ((List.range (am_nf ci)).map (am_fv b sc (am_nw M (ci, am_nf ci) (am_nf ci)) (am_nx M.1) ci)) j = am_fv b sc (am_nw M (ci, am_nf ci) (am_nf ci)) (am_nx M.1) ci j := by
      rw [vp_V, List.getD_eq_getElem?_getD, am_fvat hj]; rfl
    rw [e]
    obtain ⟨-, -, f0, f1, f2, f3⟩ := am_ftok w5 hj
    rcases (show am_fty ci j = 0 ∨ am_fty ci j = 1 ∨ am_fty ci j = 2 by omega) with hk | hk | hk
    · rw [f0 hk, am_fv, if_neg (by omega)]; simp [am_nw, defaultValue]
    · rw [f1 hk, am_fv, if_neg (by omega)]; simp [am_nw, defaultValue]
    · rw [am_fv, if_pos hk]
      rcases f2 hk with ⟨z, hz⟩ | ⟨z, hz⟩ <;> rw [hz] <;> simp [am_nw, defaultValue, am_rl]
  refine va_new (ci := ci) (C := am_cn ci) (T := am_TF ci) (N := am_nf ci) hx hb hts (am_ws_in ci w5) (am_tyf ci) (am_tyok ci w5) ho (am_hw hts w1 (by first | rfl | simp [goodWord, Cond.onTables, Cond.keeps, Cond.steady])) (am_hw hts w2 (by first | rfl | simp [goodWord, Cond.onTables, Cond.keeps, Cond.steady])) (am_hw hts w3 (by first | rfl | simp [goodWord, Cond.onTables, Cond.keeps, Cond.steady])) hcst.1 hP am_DD hS (fun q hq => by unfold am_A; omega) (am_cl_at ci w5) hfs (by omega) (by omega) hd (fun q H1 hP1 hD1 hS1 => ?_)
  refine am_wsz (fun hz => ?_)
  have hq : q = b + am_lo (am_nx M.1) := by rw [am_lx]; exact am_newat (by omega) hP1 hD1 hz
  subst hq
  have e : am_en b sc cA (am_nw M (ci, am_nf ci) (am_nf ci)) (am_nx M.1) = .inr (ci, (List.range (am_nf ci)).map (am_fv b sc (am_nw M (ci, am_nf ci) (am_nf ci)) (am_nx M.1) ci)) := by
    have e0 : ((am_nw M (ci, am_nf ci) (am_nf ci)).2.2.1 (am_nx M.1)).1 = ci := by simp [am_nw]
    rw [am_en_o (by rw [e0]; omega), e0]
  rw [← e, ← am_ws_push am_nw_en] at hP1
  exact h H1 locs (cells + 1) (slots + am_nf ci) ls hP1 hS1 (am_nw_sh hs (Or.inl w5)) (show M.1 + 1 = M0.1 + (cells + 1) by omega) (show M.2.1 + am_nf ci = M0.2.1 + (slots + am_nf ci) by omega) hl
theorem am_i_newarray {t : ArrayType} (G : am_G p s m args c S0 b cs sc D cA M0 cc nL o) (hd : decode cc pc = .ok (.newarray t, 2)) (ht : t = .int ∨ t = .byte) (hn0 : ¬ x < 0) (hn1 : x.toNatClampNeg ≤ 65536) (hc1 : M.1 + 1 ≤ M0.1 + R.cells) (hs1 : M.2.1 + x.toNatClampNeg ≤ M0.2.1 + R.slots) (h : (am_X p l e R s m args below meth c Q b sc D cA M0 nL) (pc + 2) lv (.ref (am_nx M.1) :: st) (am_nw M (if t = .int then 20 else 21, x.toNatClampNeg) x.toNatClampNeg)) : (am_X p l e R s m args below meth c Q b sc D cA M0 nL) pc lv (.int x :: st) M := by
  intro H locs cells slots ls hP hS hs hc hn hl
  obtain ⟨hx, hb, hm, ho, hts, hcst, hq0, hsz⟩ := G
  have key : ∀ (ty : FieldType) (z : Nat) (j : Nat), newarray.typeOf t = ty → (am_tys cA)[j]? = some (cA z, ty) → (if t = .int then 20 else 21) = z → 20 ≤ z → z < 22 → (Cond.arrayClass ty).before args s = true → defaultValue ty = .int 0 → componentBytes ty ≤ 8 → (∀ C, ty ≠ .object C) → W p l e R s m args below meth c H locs cells slots Q (F0 m pc ls (.int x :: st.map (am_rl b sc))) := by
    intro ty z j e1 e2 e3 e4 e5 e6 e7 e8 e9
    rw [e3] at h
    refine va_newa (a0 := (x.toNatClampNeg, .inl (fun _ => 0))) hx hb (by rw [e1]; exact e6) e1 hcst.1 hP am_DD hS (fun q hq => by unfold am_A; omega) (fun cA => by rw [e7]; rfl) hn0 rfl (by
      have : x.toNatClampNeg * componentBytes ty ≤ 65536 * 8 := Nat.mul_le_mul hn1 e8
      omega) (by omega) (by omega) hd (fun q cB H1 hK1 hP1 hD1 hS1 => ?_)
    refine am_wsz (fun hz => ?_)
    have hq : q = b + am_lo (am_nx M.1) := by rw [am_lx]; exact am_newat (by omega) hP1 hD1 hz
    subst hq
    have hcB : cB = cA z := by
      have g1 := (hcst.1.2 j _ e2).2
      have g2 := (hK1.2 (am_tys cA).length (cB, ty) (by rw [List.getElem?_append_right (Nat.le_refl _), Nat.sub_self]; rfl)).2
      cases ty with
      | object C => exact absurd rfl (e9 C)
      | _ => exact Option.some.inj (g2.symm.trans g1)
    subst hcB
    have e : am_en b sc cA (am_nw M (z, x.toNatClampNeg) x.toNatClampNeg) (am_nx M.1) = .inl (cA z, (x.toNatClampNeg, .inl (fun _ => 0))) := by
      have e0 : (am_nw M (z, x.toNatClampNeg) x.toNatClampNeg).2.2.1 (am_nx M.1) = (z, x.toNatClampNeg) := by simp [am_nw]
      have e1 : (am_nw M (z, x.toNatClampNeg) x.toNatClampNeg).2.2.2.1 (am_nx M.1) = fun _ => 0 := by funext j; simp [am_nw]
      rw [am_en_i (k := z) (by rw [e0]) e4 e5, e0, e1]
    rw [← e, ← am_ws_push am_nw_en] at hP1
    exact h H1 locs (cells + 1) (slots + x.toNatClampNeg) ls hP1 hS1 (am_nw_sh hs (Or.inr ⟨e4, by simp only; omega⟩)) (show M.1 + 1 = M0.1 + (cells + 1) by omega) (show M.2.1 + x.toNatClampNeg = M0.2.1 + (slots + x.toNatClampNeg) by omega) hl
  rcases ht with rfl | rfl
  · exact key .int 20 0 rfl rfl rfl (by omega) (by omega) (hts _ (by decide +kernel)) rfl (by decide) (fun C h => by cases h)
  · exact key .byte 21 1 rfl rfl (by decide) (by omega) (by omega) (hts _ (by decide +kernel)) rfl (by decide) (fun C h => by cases h)
theorem am_i_anewarray {ix k q1 q2 : Nat} (G : am_G p s m args c S0 b cs sc D cA M0 cc nL o) (hd : decode cc pc = .ok (.anewarray ix, 3)) (he : (o, ix, k, q1, q2) ∈ am_AL) (hn0 : ¬ x < 0) (hn1 : x.toNatClampNeg ≤ 65536) (hc1 : M.1 + 1 ≤ M0.1 + R.cells) (hs1 : M.2.1 + x.toNatClampNeg ≤ M0.2.1 + R.slots) (h : (am_X p l e R s m args below meth c Q b sc D cA M0 nL) (pc + 3) lv (.ref (am_nx M.1) :: st) (am_nw M (k, x.toNatClampNeg) x.toNatClampNeg)) : (am_X p l e R s m args below meth c Q b sc D cA M0 nL) pc lv (.int x :: st) M := by
  intro H locs cells slots ls hP hS hs hc hn hl
  obtain ⟨hx, hb, hm, ho, hts, hcst, hq0, hsz⟩ := G
  have hw := List.all_eq_true.mp am_AL_ok _ he
  simp only [Bool.and_eq_true, decide_eq_true_eq] at hw
  obtain ⟨w1, w2, w3, w4⟩ := hw
  refine va_newq (C := am_en4 k) hx hb ho (am_hw hts w1 (by first | rfl | simp [goodWord, Cond.onTables, Cond.keeps, Cond.steady])) (hcst.2.2.2.2.2.2.2.2.2.1 _ he) hcst.1 hP am_DD hS (fun q hq => by unfold am_A; omega) hn0 rfl (by omega) (by omega) (by omega) hd (fun q cB H1 hK1 hP1 hD1 hS1 => ?_)
  refine am_wsz (fun hz => ?_)
  have hq : q = b + am_lo (am_nx M.1) := by rw [am_lx]; exact am_newat (by omega) hP1 hD1 hz
  subst hq
  have hcB : cB = cA k := by
    obtain ⟨kA, comp, -, -, -, g1⟩ := (hcst.1.2 (k - 20) _ (am_tyq w3 w4)).2
    obtain ⟨kB, comp2, -, -, -, g2⟩ := (hK1.2 (am_tys cA).length (cB, .object (am_en4 k)) (by rw [List.getElem?_append_right (Nat.le_refl _), Nat.sub_self]; rfl)).2
    exact Option.some.inj (g2.symm.trans g1)
  subst hcB
  have e : am_en b sc cA (am_nw M (k, x.toNatClampNeg) x.toNatClampNeg) (am_nx M.1) = .inl (cA k, x.toNatClampNeg, .inr (.inr (.inr (.inr (fun _ => none))))) := by
    have e0 : (am_nw M (k, x.toNatClampNeg) x.toNatClampNeg).2.2.1 (am_nx M.1) = (k, x.toNatClampNeg) := by simp [am_nw]
    have e1 : (fun j => am_ro b sc ((am_nw M (k, x.toNatClampNeg) x.toNatClampNeg).2.2.2.2 (am_nx M.1) j)) = fun _ => none := by funext j; simp [am_nw, am_ro]
    rw [am_en_q (k := k) (by rw [e0]) w3, e0, e1]
  rw [← e, ← am_ws_push am_nw_en] at hP1
  exact h H1 locs (cells + 1) (slots + x.toNatClampNeg) ls hP1 hS1 (am_nw_sh hs (Or.inr ⟨by simp only; omega, by simp only; omega⟩)) (show M.1 + 1 = M0.1 + (cells + 1) by omega) (show M.2.1 + x.toNatClampNeg = M0.2.1 + (slots + x.toNatClampNeg) by omega) hl
theorem am_i_copy {ix q a0 : Nat} {sp dp n : Int32} (G : am_G p s m args c S0 b cs sc D cA M0 cc nL o) (hd : decode cc pc = .ok (.invokestatic ix, 3)) (he : (o, ix, q) ∈ am_CP) (hsh0 : (M.2.2.1 a0).1 = 20) (hsh : (M.2.2.1 a).1 = 20) (h1 : ¬ sp < 0) (h2 : ¬ dp < 0) (h3 : ¬ n < 0) (h4 : sp.toNatClampNeg + n.toNatClampNeg ≤ (M.2.2.1 a0).2) (h5 : dp.toNatClampNeg + n.toNatClampNeg ≤ (M.2.2.1 a).2) (hsum : (st.map fun v => v.category).sum ≤ 8) (hRf : 1 ≤ R.frames) (hRl : 64 ≤ R.locals) (h : (am_X p l e R s m args below meth c Q b sc D cA M0 nL) (pc + 3) lv st (am_cp M a0 a sp dp n)) : (am_X p l e R s m args below meth c Q b sc D cA M0 nL) pc lv (.int n :: .int dp :: .ref a :: .int sp :: .ref a0 :: st) M := by
  intro H locs cells slots ls hP hS hs hc hn hl
  obtain ⟨hx, hb, hm, ho, hts, hcst, hq0, hsz⟩ := G
  have hw := List.all_eq_true.mp am_CP_ok _ he
  simp only [decide_eq_true_eq] at hw
  have hlt0 : am_lo a0 < M.1 := am_lt hs (by rw [hsh0]; omega)
  have hlt : am_lo a < M.1 := am_lt hs (by rw [hsh]; omega)
  refine va_copyi hx hb (by rw [hm]; exact hl.1.symm) ho (am_hw hts hw (by first | rfl | simp [goodWord, Cond.onTables, Cond.keeps, Cond.steady])) (hts _ (by decide +kernel)) (hts _ (by decide +kernel)) (hts _ (by decide +kernel)) hcst.1 hP am_DD hS (am_lo a0) (am_lo a) 0 0 ((am_ws_at hlt0).trans (by rw [am_en_i hsh0 (by omega) (by omega)])) ((am_ws_at hlt).trans (by rw [am_en_i hsh (by omega) (by omega)])) rfl rfl rfl h1 h2 h3 h4 h5 (fun i _ => rfl) hRf (by
    rw [am_sum]
    have : nativeFrameWords "java/lang/System" "arraycopy" 5 = 7 := by decide +kernel
    omega) hd (fun H1 locs1 hP1 _ hS1 => ?_)
  have e : am_en b sc cA (am_cp M a0 a sp dp n) a = .inl (cA 20, (M.2.2.1 a).2, .inl (va_cpy (M.2.2.2.1 a0) (M.2.2.2.1 a) sp.toNatClampNeg dp.toNatClampNeg n.toNatClampNeg)) := by
    have e1 : (am_cp M a0 a sp dp n).2.2.2.1 a = va_cpy (M.2.2.2.1 a0) (M.2.2.2.1 a) sp.toNatClampNeg dp.toNatClampNeg n.toNatClampNeg := by funext j; simp [am_cp]
    rw [am_en_i (M := am_cp M a0 a sp dp n) (k := 20) hsh (by omega) (by omega), e1]; rfl
  rw [← e, am_ws_set (M := M) (M' := am_cp M a0 a sp dp n) rfl am_cp_en] at hP1
  exact h H1 locs1 cells slots ls hP1 hS1 hs hc hn hl
theorem am_i_objInit {ix q : Nat} (G : am_G p s m args c S0 b cs sc D cA M0 cc nL o) (hd : decode cc pc = .ok (.invokespecial ix, 3)) (he : (o, ix, q) ∈ am_OI) (hsum : (st.map fun v => v.category).sum ≤ 8) (hRf : 1 ≤ R.frames) (hRl : 64 ≤ R.locals) (h : (am_X p l e R s m args below meth c Q b sc D cA M0 nL) (pc + 3) lv st M) : (am_X p l e R s m args below meth c Q b sc D cA M0 nL) pc lv (.ref a :: st) M := by
  intro H locs cells slots ls hP hS hs hc hn hl
  obtain ⟨hx, hb, hm, ho, hts, hcst, hq0, hsz⟩ := G
  have hw := List.all_eq_true.mp am_OI_ok _ he
  simp only [decide_eq_true_eq] at hw
  refine W.objInit hx hb ho (am_hw hts hw (by first | rfl | simp [goodWord, Cond.onTables, Cond.keeps, Cond.steady])) (hts _ (by decide +kernel)) (hts (.code Lib.objectInit ⟨#[0xb1]⟩ 1 none) (by decide +kernel)) rfl (by rw [hm]; exact hl.1) rfl hd hRf (by
    rw [am_sum]
    show 2 * 0 + _ + 12 ≤ _
    omega) ?_
  exact h H locs cells slots ls hP hS hs hc hn hl
theorem am_i_mmin {ix q : Nat} (G : am_G p s m args c S0 b cs sc D cA M0 cc nL o) (hd : decode cc pc = .ok (.invokestatic ix, 3)) (he : (o, ix, 2, q) ∈ am_SL) (hsum : (st.map fun v => v.category).sum ≤ 8) (hc1 : M.1 ≤ M0.1 + R.cells) (hs1 : M.2.1 ≤ M0.2.1 + R.slots) (hRf : 1 ≤ R.frames) (hRl : 64 ≤ R.locals) (h : (am_X p l e R s m args below meth c Q b sc D cA M0 nL) (pc + 3) lv (.int (if y < x then y else x) :: st) M) : (am_X p l e R s m args below meth c Q b sc D cA M0 nL) pc lv (.int y :: .int x :: st) M := by
  intro H locs cells slots ls hP hS hs hc hn hl
  obtain ⟨hx, hb, hm, ho, hts, hcst, hq0, hsz⟩ := G
  have hw := List.all_eq_true.mp am_SL_ok _ he
  simp only [Bool.and_eq_true, decide_eq_true_eq] at hw
  have hw1 : lw_tbl[q]? = some (.methodLink (am_cn o) ix Lib.Math.min.name) := hw.1
  exact va_mmin hx hb (by rw [hm]; exact hl.1.symm) ho (am_hw hts hw1 (by first | rfl | simp [goodWord, Cond.onTables, Cond.keeps, Cond.steady])) (hts _ (by decide +kernel)) (hts _ (by decide +kernel)) (hts _ (by decide +kernel)) hRf (by rw [am_sum]; omega) (by omega) (by omega) hd (h H locs cells slots ls hP hS hs hc hn hl)
theorem am_i_mmax {ix q : Nat} (G : am_G p s m args c S0 b cs sc D cA M0 cc nL o) (hd : decode cc pc = .ok (.invokestatic ix, 3)) (he : (o, ix, 3, q) ∈ am_SL) (hsum : (st.map fun v => v.category).sum ≤ 8) (hc1 : M.1 ≤ M0.1 + R.cells) (hs1 : M.2.1 ≤ M0.2.1 + R.slots) (hRf : 1 ≤ R.frames) (hRl : 64 ≤ R.locals) (h : (am_X p l e R s m args below meth c Q b sc D cA M0 nL) (pc + 3) lv (.int (if x < y then y else x) :: st) M) : (am_X p l e R s m args below meth c Q b sc D cA M0 nL) pc lv (.int y :: .int x :: st) M := by
  intro H locs cells slots ls hP hS hs hc hn hl
  obtain ⟨hx, hb, hm, ho, hts, hcst, hq0, hsz⟩ := G
  have hw := List.all_eq_true.mp am_SL_ok _ he
  simp only [Bool.and_eq_true, decide_eq_true_eq] at hw
  have hw1 : lw_tbl[q]? = some (.methodLink (am_cn o) ix Lib.Math.max.name) := hw.1
  exact va_mmax hx hb (by rw [hm]; exact hl.1.symm) ho (am_hw hts hw1 (by first | rfl | simp [goodWord, Cond.onTables, Cond.keeps, Cond.steady])) (hts _ (by decide +kernel)) (hts _ (by decide +kernel)) (hts _ (by decide +kernel)) hRf (by rw [am_sum]; omega) (by omega) (by omega) hd (h H locs cells slots ls hP hS hs hc hn hl)
end AMH
