/-! calls -/
def am_R (S0 : State) (b : Nat) (cs : Nat → Nat × (Nat → Int32)) (sc : Nat → Nat) (D : va_G) (cA : Nat → ClassId) (M : am_M) (U : State) : Prop :=
  va_P D am_cl (am_ws b sc cA M) U.heap ∧ U.heap.size = b + M.1 ∧ am_sh M ∧ (∀ q, q < b → U.heap[q]? = S0.heap[q]?) ∧ am_cst S0 b cs sc D cA U
def am_Q (b : Nat) (sc : Nat → Nat) (D : va_G) (cA : Nat → ClassId) (M : am_M) (z : Nat × Nat) (P : am_T) : Array Value → State → Outcome → State → Prop := fun _ st oc t =>
  (∃ (r : Option Value) (M1 : am_M), oc = .returned (r.map (am_rl b sc)) ∧ P r M1 ∧ M1.1 = M.1 + z.1 ∧ M1.2.1 = M.2.1 + z.2 ∧ am_sh M1 ∧ va_P D am_cl (am_ws b sc cA M1) t.heap) ∧ va_F (am_A b) st t
def am_yw (y : Nat) : List Cond := Cond.code (am_ym y).1.1 (am_ym y).1.2.1 (am_ym y).1.2.2.1 (am_ym y).1.2.2.2 :: am_W
def am_rm (d y : Nat) : Room := { frames := d, cells := (am_mc y).1, slots := (am_mc y).2, locals := 64 * d }
/-- the callees' contracts at depth d -/
def am_Mt (l : Launch) (S0 : State) (b : Nat) (cs : Nat → Nat × (Nat → Int32)) (sc : Nat → Nat) (D : va_G) (cA : Nat → ClassId) (d : Nat) (C : am_C) : Prop :=
  ∀ (y : Nat) (as : List Value) (M : am_M) (P : am_T), y < 256 → (y < 10 ∨ 15 < y) → (lg_sl as).length ≤ (am_ym y).1.2.2.1 → C y as M P →
    Met l (am_ym y).1.1 (am_yw y) (am_rm d y) (va_Pc (as.map (am_rl b sc)) (am_R S0 b cs sc D cA M)) (am_Q b sc D cA M (am_mc y) P) (am_mc y).1 (am_mc y).2 (am_A b)
def am_Ql (r : Int32) : Array Value → State → Outcome → State → Prop := fun _ st oc t => oc = .returned (some (.int r)) ∧ t.heap = st.heap
def am_Ps (S0 : State) (b : Nat) (cs : Nat → Nat × (Nat → Int32)) (sc : Nat → Nat) (D : va_G) (cA : Nat → ClassId) (U : State) : Prop := (∀ q, q < b → U.heap[q]? = S0.heap[q]?) ∧ am_cst S0 b cs sc D cA U
def am_yL : MethodName := ⟨"java/lang/String", "length", "()I"⟩
def am_yC : MethodName := ⟨"java/lang/String", "charAt", "(I)C"⟩
def am_St (l : Launch) (S0 : State) (b : Nat) (cs : Nat → Nat × (Nat → Int32)) (sc : Nat → Nat) (D : va_G) (cA : Nat → ClassId) : Prop :=
  (∃ bs ml, ml ≤ 40 ∧ Cond.code am_yL bs ml (some .int) ∈ lw_tbl ∧ ∀ k, k < 16 → Met l am_yL (Cond.code am_yL bs ml (some .int) :: am_W) { frames := 7, cells := 0, slots := 0, locals := 448 } (va_Pc [.ref (sc k)] (am_Ps S0 b cs sc D cA)) (am_Ql (Int32.ofNat (am_sl k))) 0 0 (fun _ => False)) ∧
  (∃ bs ml, ml ≤ 40 ∧ Cond.code am_yC bs ml (some .char) ∈ lw_tbl ∧ ∀ k x, k < 16 → vp_in x (am_sl k) → Met l am_yC (Cond.code am_yC bs ml (some .char) :: am_W) { frames := 7, cells := 0, slots := 0, locals := 448 } (va_Pc [.ref (sc k), .int x] (am_Ps S0 b cs sc D cA)) (am_Ql (am_sc k x.toNatClampNeg)) 0 0 (fun _ => False))
theorem am_Wgood {w : Cond} (h : w ∈ am_W) : (w.onTables && w.keeps) = true ∨ ∃ ty, w = .arrayClass ty := good_of_word (List.mem_filter.mp h).2
theorem am_inW {w : Cond} {p : Nat} (hp : lw_tbl[p]? = some w) (hg : goodWord w = true) : w ∈ am_W := List.mem_filter.mpr ⟨List.mem_of_getElem? hp, hg⟩
theorem am_GoodIn {ws : List Cond} (h : ∀ w ∈ ws, w ∈ am_W) : GoodIn am_W ws := fun w hw => ⟨h w hw, am_Wgood (h w hw)⟩

section AMC
variable {p : Program} {l : Launch} {e : Env} {R : Room} {s : State} {m : MethodId} {args : Array Value} {below : List Frame} {meth : Method} {c : Code} {Q : State → Prop}
variable {S0 : State} {b : Nat} {cs : Nat → Nat × (Nat → Int32)} {sc : Nat → Nat} {D : va_G} {cA : Nat → ClassId} {M0 M : am_M} {cc : ByteArray} {nL o pc a : Nat} {lv : am_L} {st : List Value} {x y : Int32}
theorem am_blind {as : List Value} : FrameBlind (va_Pc as (am_R S0 b cs sc D cA M)) := fun a U g mk q => ⟨q.1, q.2.1, q.2.2.1, q.2.2.2.1, q.2.2.2.2.1, am_cst_same (u := U) (U := U.calling g mk a) rfl q.2.2.2.2.2⟩
theorem am_blindS {as : List Value} : FrameBlind (va_Pc as (am_Ps S0 b cs sc D cA)) := fun a U g mk q => ⟨q.1, q.2.1, am_cst_same (u := U) (U := U.calling g mk a) rfl q.2.2⟩
/-- behind a call -/
theorem am_callgo {H : Heap} {locs : List Loc} {cells slots : Nat} {ls : Array Slot} {st0 rest : List Value} {z : Nat × Nat} {P : am_T} {av : Array Value} (hr : va_Run p l e R s m args below meth c H locs cells slots z.1 z.2 (F0 m pc ls st0) (rest.map (am_rl b sc)) (am_Q b sc D cA M z P av) (am_A b)) (hS : va_S (am_A b) s.heap H locs)
    (hc : M.1 = M0.1 + cells) (hn : M.2.1 = M0.2.1 + slots) (hl : lv_has ls nL (am_lm b sc lv)) (kk : ∀ r M1, P r M1 → (am_X p l e R s m args below meth c Q b sc D cA M0 nL) (pc + 3) lv (r.toList ++ rest) M1) : W p l e R s m args below meth c H locs cells slots Q (F0 m pc ls st0) := by
  intro T hT X
  obtain ⟨v, st₀, t, T', L, h0, X', hL, e1, e2, ⟨⟨r, M1, hv, hp, c1, c2, hs1, hP1⟩, hz, hk⟩, stp⟩ := hr T hT X
  cases hv
  rw [h0] at hz hk
  have hS1 : va_S (am_A b) s.heap T'.heap (locs ++ L) := ⟨Nat.le_trans hS.1 (by rw [e1]; exact hz), fun q h1 h2 => by rw [e1, hk q (Nat.lt_of_lt_of_le h1 hS.1) h2]; exact hS.2.1 q h1 h2, fun q hq => by
      rcases List.mem_append.mp hq with h | h
      · exact hS.2.2 q h
      · exact hL q h⟩
  obtain ⟨t2, a1, b1⟩ := kk r M1 hp T'.heap (locs ++ L) (cells + z.1) (slots + z.2) ls (by rw [e1]; exact hP1) hS1 hs1 (by omega) (by omega) hl T' rfl X'
  have e3 : (r.toList ++ rest).map (am_rl b sc) = (r.map (am_rl b sc)).toList ++ rest.map (am_rl b sc) := by
    cases r <;> simp
  rw [e3] at a1
  exact ⟨t2, stp t2 a1, b1⟩
theorem am_callgoS {H : Heap} {locs : List Loc} {cells slots : Nat} {ls : Array Slot} {st0 rest : List Value} {r : Int32} {av : Array Value} (hr : va_Run p l e R s m args below meth c H locs cells slots 0 0 (F0 m pc ls st0) rest (am_Ql r av) (fun _ => False))
    (kk : W p l e R s m args below meth c H locs cells slots Q (F0 m (pc + 3) ls (.int r :: rest))) : W p l e R s m args below meth c H locs cells slots Q (F0 m pc ls st0) := by
  intro T hT X
  obtain ⟨v, st₀, t, T', L, h0, X', hL, e1, e2, ⟨hv, hh⟩, stp⟩ := hr T hT X
  cases hv
  cases L with
  | cons q L => exact (hL q List.mem_cons_self).elim
  | nil =>
    obtain ⟨t2, a1, b1⟩ := kk T' (by rw [e1, hh, h0]) (by simpa using X')
    exact ⟨t2, stp t2 a1, b1⟩
theorem am_preU {H : Heap} {locs : List Loc} {cells : Nat} (G : am_G p s m args c S0 b cs sc D cA M0 cc nL o) (hP : va_P D am_cl (am_ws b sc cA M) H) (hS : va_S (am_A b) s.heap H locs) (hs : am_sh M) (hc : M.1 = M0.1 + cells) (hz : H.size ≤ s.heap.size + cells) : ∀ U : State, U.heap = H → s.WarmedH U.vm → am_R S0 b cs sc D cA M U := by
  intro U hU hW
  obtain ⟨hx, hb, hm, ho, hts, hcst, hq0, hsz⟩ := G
  have hb1 : b ≤ s.heap.size := by omega
  refine ⟨by rw [hU]; exact hP, ?_, hs, fun q hq => ?_, am_cst_moved hW hcst⟩
  · have := am_sz hP (Nat.le_trans hb1 hS.1)
    rw [hU]
    omega
  · rw [hU, hS.2.1 q (by omega) (fun z => by unfold am_A at z; omega)]
    exact hq0 q hq
theorem am_lgs {as : List Value} (h : as.all (fun v => v.category == 1) = true) : (lg_sl as).length = as.length := by
  induction as with
  | nil => rfl
  | cons v as ih =>
    simp only [List.all_cons, Bool.and_eq_true, beq_iff_eq] at h
    have e : lg_sl (v :: as) = (if v.category = 2 then [Slot.val v, .second] else [.val v]) ++ lg_sl as := rfl
    rw [e, if_neg (by omega), List.length_append, ih h.2, List.length_cons]
    simp
    omega
set_option maxHeartbeats 16000000 in
theorem am_i_call {ix y kind nest k q d : Nat} {C : am_C} {P : am_T} {raw : Instr} (G : am_G p s m args c S0 b cs sc D cA M0 cc nL o) (hC : am_Mt l S0 b cs sc D cA d C) (hRf : d + 1 ≤ R.frames) (hRl : 64 * (d + 1) ≤ R.locals) (hd : decode cc pc = .ok (raw, 3)) (hraw : raw = if kind = 0 then .invokevirtual ix else if kind = 1 then .invokestatic ix else .invokespecial ix) (he : (o, ix, y, kind, nest, k, q) ∈ am_ML)
    (hlen : k % 16 ≤ st.length) (hcat : (st.take (k % 16)).all (fun v => v.category == 1) = true) (hsum : ((st.drop (k % 16)).map fun v => v.category).sum ≤ 8) (hrec : if k / 16 % 64 = 63 then True else ∃ a, (st.take (k % 16)).getLast? = some (.ref a) ∧ (M.2.2.1 a).1 = k / 16 % 64)
    (hc1 : M.1 + (am_mc (k / 1024)).1 ≤ M0.1 + R.cells) (hs1 : M.2.1 + (am_mc (k / 1024)).2 ≤ M0.2.1 + R.slots) (h : C (k / 1024) (st.take (k % 16)).reverse M P) (kk : ∀ r M1, P r M1 → (am_X p l e R s m args below meth c Q b sc D cA M0 nL) (pc + 3) lv (r.toList ++ st.drop (k % 16)) M1) : (am_X p l e R s m args below meth c Q b sc D cA M0 nL) pc lv st M := by
  intro H locs cells slots ls hP hS hs hc hn hl
  refine am_wsz (fun hz => ?_)
  have hpre := am_preU G hP hS hs hc hz
  obtain ⟨hx, hb, hm, ho, hts, hcst, hq0, hsz⟩ := G
  have hM := am_ML_ok _ he
  simp only [am_MLok, decide_eq_true_eq] at hM
  obtain ⟨l1a, l1b, l2, l3, l4, l5, l6, l7, l9, l10, l11, l12, l13, l14a, l14b, l15⟩ := hM
  have y1 := am_Ycode y l2 l3
  have hY := am_Y_ok y l2
  simp only [am_Yok, Bool.or_eq_true, decide_eq_true_eq, Bool.and_eq_true] at hY
  have hY := hY.resolve_left (by omega)
  obtain ⟨⟨y2, y3, y4, y5, y6, y7⟩, y8⟩ := hY
  clear y8
  subst l6
  have hnest : nest = 1 → va_Nw (.methodLinkNest (am_cn o) ix (am_ym (k / 1024)).1.1 RX8) s := fun hnn => by
    have := hcst.2.2.2.2.2.2.2.1 (o, ix, k / 1024, kind, nest, k, q) he hnn
    dsimp only at this
    exact this
  have hMet := hC (k / 1024) (st.take (k % 16)).reverse M P l2 (by omega)
  unfold am_yw am_rm at hMet
  have y2 : lw_tbl[(am_ym (k / 1024)).2.2.2.2.2]? = some (.initialized (am_ym (k / 1024)).1.1.cls) := y2
  have y3 : (am_ym (k / 1024)).1.1.cls = am_cn (am_ym (k / 1024)).2.1.1 := y3
  have y4 : (am_ym (k / 1024)).2.1.1 < 12 := y4
  have y6 : (am_ym (k / 1024)).1.1.cls ≠ "java/lang/invoke/MethodHandle" ∧ (am_ym (k / 1024)).1.1.cls ≠ "java/lang/invoke/VarHandle" := y6
  have y7 : (am_ym (k / 1024)).1.2.2.1 ≤ 40 := y7
  clear y5 he hC
  generalize am_ym (k / 1024) = Y at *
  generalize am_mc (k / 1024) = zz at *
  have hcode : Cond.code Y.1.1 Y.1.2.1 Y.1.2.2.1 Y.1.2.2.2 ∈ am_W := am_inW y1 (by first | rfl | simp [goodWord, Cond.onTables, Cond.keeps, Cond.steady])
  have hini : Cond.initialized Y.1.1.cls ∈ am_W := am_inW y2 (by first | rfl | simp [goodWord, Cond.onTables, Cond.keeps, Cond.steady])
  have hGi : GoodIn am_W (Cond.code Y.1.1 Y.1.2.1 Y.1.2.2.1 Y.1.2.2.2 :: am_W) := am_GoodIn (fun w hw => (List.mem_cons.mp hw).elim (fun e => e ▸ hcode) id)
  have hasl : ((st.take (k % 16)).reverse).length = k % 16 := by simp; omega
  have hlg : (lg_sl (st.take (k % 16)).reverse).length ≤ Y.1.2.2.1 := by
    rw [am_lgs (by simpa using hcat), hasl]; exact l12
  have hMet := hMet hlg h
  have hroom : d + 1 ≤ R.frames ∧ 8 + (Y.1.2.2.1 + 11) + 64 * d ≤ R.locals := ⟨hRf, by omega⟩
  have hst : st.map (am_rl b sc) = (st.take (k % 16)).map (am_rl b sc) ++ (st.drop (k % 16)).map (am_rl b sc) := by rw [← List.map_append, List.take_append_drop]
  have hW8 : 2 * (F0 m pc ls (st.map (am_rl b sc))).monitorRoom + (((st.drop (k % 16)).map (am_rl b sc)).map fun v => v.category).sum ≤ 8 := lv_room (by rw [am_sum]; exact hsum)
  have hf : cells + zz.1 ≤ R.cells ∧ slots + zz.2 ≤ R.slots := by omega
  by_cases hk1 : kind = 1
  · subst hk1
    have hraw' : raw = .invokestatic ix := by rw [hraw]; rfl
    rw [hraw'] at hd
    have hsp : lw_tbl[Y.2.2.2.1]? = some (Cond.static Y.1.1) := l14a rfl
    have hstat : Cond.static Y.1.1 ∈ am_W := am_inW hsp (by first | rfl | simp [goodWord, Cond.onTables, Cond.keeps, Cond.steady])
    have hpar : (parseMethodDescriptor Y.1.1.desc).map (fun d => d.parameters.length) = some (k % 16) := by rw [l13]; rfl
    have hstk : (F0 m pc ls (st.map (am_rl b sc))).stack = (((st.take (k % 16)).reverse.map (am_rl b sc))).reverse ++ (st.drop (k % 16)).map (am_rl b sc) := by
      show st.map (am_rl b sc) = _
      rw [hst, ← List.map_reverse, List.reverse_reverse]
    have hp : PreS s H (va_Pc ((st.take (k % 16)).reverse.map (am_rl b sc)) (am_R S0 b cs sc D cA M)) ((st.take (k % 16)).reverse.map (am_rl b sc)) := ⟨am_blind, fun U hU hW => ⟨rfl, hpre U hU hW⟩⟩
    by_cases hne : nest = 0
    · have l1 := l1a hne
      refine am_callgo (z := zz) (va_runS ⟨hx, hb, hm, ho, hts⟩ hMet (va_cwS (k % 16) hts (am_GoodIn (fun w hw => ?_)) rfl rfl rfl ⟨y6.1, y6.2, hpar⟩ hroom) hp rfl (by simpa using hasl) hl.1 hstk hW8 hd hf) hS hc hn hl kk
      simp only [va_wsS, List.mem_append, List.mem_cons, List.not_mem_nil, or_false] at hw
      rcases hw with (rfl | rfl | rfl) | hw
      · exact am_inW l1 (by first | rfl | simp [goodWord, Cond.onTables, Cond.keeps, Cond.steady])
      · exact hstat
      · exact hini
      · exact (hGi w (List.mem_cons.mpr hw)).1
    · have hnn : nest = 1 := by omega
      exact am_callgo (z := zz) (va_runSN (host := RX8) ⟨hx, hb, hm, ho, hts⟩ hMet ⟨va_cnB (k % 16) hts hGi rfl rfl rfl (hnest hnn) (hts _ hini) ⟨y6.1, y6.2, hpar⟩ hroom, hts _ hstat, trivial⟩ hp rfl (by simpa using hasl) hl.1 hstk hW8 hd hf) hS hc hn hl kk
  · have hinst : Cond.instanceMethod Y.1.1 ∈ am_W := by
      have hsp : lw_tbl[Y.2.2.2.1]? = some (Cond.instanceMethod Y.1.1) := l14b hk1
      exact am_inW hsp (by first | rfl | simp [goodWord, Cond.onTables, Cond.keeps, Cond.steady])
    rw [if_neg hk1] at l7 l13
    have h63 : ¬ k / 16 % 64 = 63 := by omega
    rw [if_neg h63] at hrec
    obtain ⟨a, hlast, hsha⟩ := hrec
    obtain ⟨TT, hTT⟩ := List.getLast?_eq_some_iff.mp hlast
    have hTl : TT.length = k % 16 - 1 := by
      have := congrArg List.length hTT
      simp at this
      omega
    have has : (st.take (k % 16)).reverse.map (am_rl b sc) = .ref (b + am_lo a) :: TT.reverse.map (am_rl b sc) := by rw [hTT]; simp [am_rl]
    have hstk : (F0 m pc ls (st.map (am_rl b sc))).stack = (TT.reverse.map (am_rl b sc)).reverse ++ .ref (b + am_lo a) :: (st.drop (k % 16)).map (am_rl b sc) := by
      show st.map (am_rl b sc) = _
      rw [hst, hTT, List.map_append, ← List.map_reverse, List.reverse_reverse, List.append_assoc]
      rfl
    rw [has] at hMet
    have hlt : am_lo a < M.1 := am_lt hs (by omega)
    have hcl := am_cl_at (k / 16 % 64)
    by_cases hk0 : kind = 0
    · subst hk0
      have hraw' : raw = .invokevirtual ix := by rw [hraw]; rfl
      rw [hraw'] at hd
      have l10' := l10 rfl
      have l1 := l1a l10'
      have hsel : Cond.selects Y.1.1.cls Y.1.1 Y.1.1 ∈ am_W := am_inW (l15 rfl) (by first | rfl | simp [goodWord, Cond.onTables, Cond.keeps, Cond.steady])
      have hci : k / 16 % 64 < 10 := by
        rcases hs.2 a hlt with z | z
        · omega
        · omega
      have hrecv : ∃ cellB : Cell, H[b + am_lo a]? = some cellB ∧ cellB.vm.isStatics = false ∧ s.vm.findClass Y.1.1.cls = some cellB.cls := by
        have := va_recv hcst.1 hP (hcl hci) ((am_ws_at hlt).trans (by rw [am_en_o (by omega), hsha]))
        rw [y3, ← l7]
        exact this
      refine am_callgo (z := zz) (va_runV ⟨hx, hb, hm, ho, hts⟩ hMet (cwV (k % 16 - 1) hts (am_GoodIn (fun w hw => ?_)) rfl rfl rfl ⟨rfl, y6.1, y6.2, l13⟩ hroom) ⟨am_blind, hrecv, fun U hU hW => ⟨rfl, hpre U hU hW⟩⟩ rfl (by simpa using hTl) hl.1 hstk hW8 hd hf) hS hc hn hl kk
      simp only [wsV, List.mem_append, List.mem_cons, List.not_mem_nil, or_false] at hw
      rcases hw with (rfl | rfl | rfl | rfl) | hw
      · exact am_inW l1 (by first | rfl | simp [goodWord, Cond.onTables, Cond.keeps, Cond.steady])
      · exact hinst
      · exact hsel
      · exact hini
      · exact (hGi w (List.mem_cons.mpr hw)).1
    · have hk2 : kind = 2 := by omega
      subst hk2
      have hraw' : raw = .invokespecial ix := by rw [hraw]; rfl
      rw [hraw'] at hd
      obtain ⟨n1, n2⟩ := l9 rfl
      have hGi2 : GoodIn am_W (Cond.code Y.1.1 Y.1.2.1 Y.1.2.2.1 none :: am_W) := by rw [← n2]; exact hGi
      have hMet2 := hMet
      rw [n2] at hMet2
      have hp : PreS s H (va_Pc (.ref (b + am_lo a) :: TT.reverse.map (am_rl b sc)) (am_R S0 b cs sc D cA M)) (.ref (b + am_lo a) :: TT.reverse.map (am_rl b sc)) := ⟨am_blind, fun U hU hW => ⟨rfl, hpre U hU hW⟩⟩
      by_cases hne : nest = 0
      · have l1 := l1a hne
        exact am_callgo (z := zz) (va_runI ⟨hx, hb, hm, ho, hts⟩ hMet2 (cwI (k % 16 - 1) hts hGi2 rfl rfl rfl (hts _ hini) (am_hw hts l1 (by first | rfl | simp [goodWord, Cond.onTables, Cond.keeps, Cond.steady])) (hts _ hinst) n1 ⟨y6.1, y6.2, l13⟩ hroom) hp rfl (by simpa using hTl) hl.1 hstk hW8 hd hf) hS hc hn hl kk
      · have hnn : nest = 1 := by omega
        exact am_callgo (z := zz) (va_runIN (host := RX8) ⟨hx, hb, hm, ho, hts⟩ hMet2 ⟨va_cnB (k % 16 - 1) hts hGi2 rfl rfl rfl (hnest hnn) (hts _ hini) ⟨y6.1, y6.2, l13⟩ hroom, n1, hts _ hinst⟩ hp rfl (by simpa using hTl) hl.1 hstk hW8 hd hf) hS hc hn hl kk
theorem am_strrecv {k : Nat} (G : am_G p s m args c S0 b cs sc D cA M0 cc nL o) (hk : k < 16) {H : Heap} {locs : List Loc} (hS : va_S (am_A b) s.heap H locs) : ∃ cellB : Cell, H[sc k]? = some cellB ∧ cellB.vm.isStatics = false ∧ s.vm.findClass "java/lang/String" = some cellB.cls := by
  have hO := (G.2.2.2.2.2.1.2.2.2.2.2.2.1 k hk).kept (am_kept G)
  obtain ⟨cell, h1, h2, h3, h4⟩ := hO.kept hS.2.1
  exact ⟨cell, h1, h2, h3⟩
theorem am_preS {H : Heap} {locs : List Loc} (G : am_G p s m args c S0 b cs sc D cA M0 cc nL o) (hS : va_S (am_A b) s.heap H locs) : ∀ U : State, U.heap = H → s.WarmedH U.vm → am_Ps S0 b cs sc D cA U := by
  intro U hU hW
  obtain ⟨hx, hb, hm, ho, hts, hcst, hq0, hsz⟩ := G
  refine ⟨fun q hq => ?_, am_cst_moved hW hcst⟩
  rw [hU, hS.2.1 q (by omega) (fun z => by unfold am_A at z; omega)]
  exact hq0 q hq
theorem am_i_slen {ix k q d : Nat} (hcr : M.1 ≤ M0.1 + R.cells) (hsr : M.2.1 ≤ M0.2.1 + R.slots) (G : am_G p s m args c S0 b cs sc D cA M0 cc nL o) (hStr : am_St l S0 b cs sc D cA) (hRf : d + 1 ≤ R.frames) (hRl : 64 * (d + 1) ≤ R.locals) (hd8 : 8 ≤ d) (hd : decode cc pc = .ok (.invokevirtual ix, 3)) (he : (o, ix, 0, q) ∈ am_SL) (hk : k < 16) (hsum : (st.map fun v => v.category).sum ≤ 8) (h : (am_X p l e R s m args below meth c Q b sc D cA M0 nL) (pc + 3) lv (.int (Int32.ofNat (am_sl k)) :: st) M) : (am_X p l e R s m args below meth c Q b sc D cA M0 nL) pc lv (.retAddr k :: st) M := by
  intro H locs cells slots ls hP hS hs hc hn hl
  obtain ⟨⟨bs, ml, hml, hcm, hMet⟩, -⟩ := hStr
  have hrecv := am_strrecv G hk hS
  have hpre := am_preS G hS
  obtain ⟨hx, hb, hm, ho, hts, hcst, hq0, hsz⟩ := G
  have hw := List.all_eq_true.mp am_SL_ok _ he
  simp only [Bool.and_eq_true, decide_eq_true_eq] at hw
  have hw1 : lw_tbl[q]? = some (.methodLink (am_cn o) ix am_yL) := hw.1
  have hcode : Cond.code am_yL bs ml (some .int) ∈ am_W := List.mem_filter.mpr ⟨hcm, by first | rfl | simp [goodWord, Cond.onTables, Cond.keeps, Cond.steady]⟩
  refine am_callgoS (va_runV (C := "java/lang/String") (As := []) (rest := st.map (am_rl b sc)) ⟨hx, hb, hm, ho, hts⟩ (hMet k hk) (cwV 0 hts (am_GoodIn (fun w hw => ?_)) rfl rfl rfl ⟨rfl, by decide +kernel, by decide +kernel, by decide +kernel⟩ ⟨by show 7 + 1 ≤ _; omega, by show 8 + (_ + 11) + 448 ≤ _; omega⟩) ⟨am_blindS, hrecv, fun U hU hW => ⟨rfl, hpre U hU hW⟩⟩ rfl rfl hl.1 rfl (lv_room (by rw [am_sum]; exact hsum)) hd (by omega)) (h H locs cells slots ls hP hS hs hc hn hl)
  simp only [wsV, List.mem_append, List.mem_cons, List.not_mem_nil, or_false] at hw
  rcases hw with (rfl | rfl | rfl | rfl) | rfl | hw
  · exact am_inW hw1 (by first | rfl | simp [goodWord, Cond.onTables, Cond.keeps, Cond.steady])
  · decide +kernel
  · decide +kernel
  · decide +kernel
  · exact hcode
  · exact hw
theorem am_i_schar {ix k q d : Nat} (hcr : M.1 ≤ M0.1 + R.cells) (hsr : M.2.1 ≤ M0.2.1 + R.slots) (G : am_G p s m args c S0 b cs sc D cA M0 cc nL o) (hStr : am_St l S0 b cs sc D cA) (hRf : d + 1 ≤ R.frames) (hRl : 64 * (d + 1) ≤ R.locals) (hd8 : 8 ≤ d) (hd : decode cc pc = .ok (.invokevirtual ix, 3)) (he : (o, ix, 1, q) ∈ am_SL) (hk : k < 16) (hin : vp_in x (am_sl k)) (hsum : (st.map fun v => v.category).sum ≤ 8) (h : (am_X p l e R s m args below meth c Q b sc D cA M0 nL) (pc + 3) lv (.int (am_sc k x.toNatClampNeg) :: st) M) : (am_X p l e R s m args below meth c Q b sc D cA M0 nL) pc lv (.int x :: .retAddr k :: st) M := by
  intro H locs cells slots ls hP hS hs hc hn hl
  obtain ⟨-, ⟨bs, ml, hml, hcm, hMet⟩⟩ := hStr
  have hrecv := am_strrecv G hk hS
  have hpre := am_preS G hS
  obtain ⟨hx, hb, hm, ho, hts, hcst, hq0, hsz⟩ := G
  have hw := List.all_eq_true.mp am_SL_ok _ he
  simp only [Bool.and_eq_true, decide_eq_true_eq] at hw
  have hw1 : lw_tbl[q]? = some (.methodLink (am_cn o) ix am_yC) := hw.1
  have hcode : Cond.code am_yC bs ml (some .char) ∈ am_W := List.mem_filter.mpr ⟨hcm, by first | rfl | simp [goodWord, Cond.onTables, Cond.keeps, Cond.steady]⟩
  refine am_callgoS (va_runV (C := "java/lang/String") (As := [.int x]) (rest := st.map (am_rl b sc)) ⟨hx, hb, hm, ho, hts⟩ (hMet k x hk hin) (cwV 1 hts (am_GoodIn (fun w hw => ?_)) rfl rfl rfl ⟨rfl, by decide +kernel, by decide +kernel, by decide +kernel⟩ ⟨by show 7 + 1 ≤ _; omega, by show 8 + (_ + 11) + 448 ≤ _; omega⟩) ⟨am_blindS, hrecv, fun U hU hW => ⟨rfl, hpre U hU hW⟩⟩ rfl rfl hl.1 rfl (lv_room (by rw [am_sum]; exact hsum)) hd (by omega)) (h H locs cells slots ls hP hS hs hc hn hl)
  simp only [wsV, List.mem_append, List.mem_cons, List.not_mem_nil, or_false] at hw
  rcases hw with (rfl | rfl | rfl | rfl) | rfl | hw
  · exact am_inW hw1 (by first | rfl | simp [goodWord, Cond.onTables, Cond.keeps, Cond.steady])
  · decide +kernel
  · decide +kernel
  · decide +kernel
  · exact hcode
  · exact hw
end AMC
