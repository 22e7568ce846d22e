-- (begun from the kit's skeleton)
/-! THE CLAIM OUT OF ONE WALK OF THE LAW'S BODY. Your part is whole_start (and what it stands on); all else here is the same for every law, but numbers. -/
def R_law : String := "WrappedHandsLaw"
def lw_P (b : Addr) (xs : List Int32) (args : Array Value) (s : State) : Prop := args = #[.ref b] ∧ s.IntsAt b xs ∧ xs.length ≤ 3072 ∧ (Jvm.Cond.and given_1 narrow_1).before args s = true
def lw_Q (_ : Array Value) (s : State) (o : Outcome) (t : State) : Prop := o = .returned (some (.int 1)) ∧ Framed s o t [] 600000 7302250
def lw_Z (below : List Frame) (a : Array Value) (s : State) : State → Prop := fun t => ∃ o, t.status = .running ∧ Ended t below o ∧ lw_Q a s o t
/-- the law's own end, with 1 on the stack, nothing written that was there before, its room as the claim has it -/
theorem lw_ret {p : Program} {l : Launch} {e : Env} {s : State} {m : MethodId} {below : List Frame} {meth : Method} {c : Code} {b : Nat} (hx : p.tables.exec = Jvm.exec) (hb : c.code = code) (hr : meth.sig.returnType = ret) (hlocks : meth.locks = false) {pc : Nat} {H : Heap} {ls : Array Slot} (hdg : decode code pc = .ok (.ireturn, 1)) : W p l e room_1 s m #[Value.ref b] below meth c H [] 600000 7302250 (lw_Z below #[Value.ref b] s) (F0 m pc ls [.int 1]) := by
  intro T hT X
  obtain ⟨fs, hret, hrun, hended, hW, hframe⟩ := X.leave (v := some (.int 1)) (hlocks := hlocks) (fun h => by rw [hr] at h; cases h)
  have hmeth' : T.vm.method? m = some meth := X.method'
  refine ⟨T.setFrames fs, ?_, .returned (some (.int 1)), hrun, hended, rfl, ⟨_, rfl⟩, hW, hframe⟩
  jvm_step X.here [X.here.top, hx, hb, hdg, hmeth', hr, ret, narrow_b1]
  (try refine ⟨rfl, ?_⟩); (try refine ⟨rfl, ?_⟩)
  first | (intro acts; rw [hret _ acts rfl rfl rfl]) | rw [hret _ _ rfl rfl rfl]
  exact Steps.refl _
/-- what holds at the law's entry: the machine, the code, the tables' words (any of lw_tbl by 'hts w (by decide +kernel)'), the script of L ints xs at the cell b, what the Statement gives of the start (any of its parts by flat_of_before) -/
def lw_At (p : Program) (s : State) (m : MethodId) (meth : Method) (c : Code) (b L : Nat) (xs : Nat → Int32) : Prop :=
  p.tables.exec = Jvm.exec ∧ c.code = code ∧ meth.sig.returnType = ret ∧ c.maxLocals = 4 ∧ s.vm.findClass R_law = some m.cls ∧ (∀ w ∈ lw_tbl, w.before #[Value.ref b] s = true) ∧ va_X b L xs s s.heap ∧ b < s.heap.size ∧ meth.locks = false ∧ (Jvm.Cond.and given_1 narrow_1).before #[Value.ref b] s = true
/-! the start: what the tables and the Statement give of it -/
def sw_fl : List Cond := flatC (Jvm.Cond.and given_1 narrow_1)
def am_tms : List (Nat × Nat) := [(7, 79), (7, 81), (7, 83), (7, 85), (7, 87), (7, 89), (7, 91), (7, 93), (7, 95), (7, 97), (7, 99), (7, 101), (7, 103), (7, 105), (7, 107), (7, 109)]
def am_tm (c : Nat) : Term := .string (am_cn (am_tms.getD c (0, 0)).1) (am_tms.getD c (0, 0)).2
def am_tv (c : Nat) : Term := .field (am_tm c) "java/lang/String" "value" "[B"
theorem sw_mem : (List.range 16).all (fun c => decide (Cond.exactly (am_tm c) "java/lang/String" ∈ sw_fl ∧ Cond.eq (.field (am_tm c) "java/lang/String" "coder" "B") (.int 0) ∈ sw_fl ∧ Cond.arrayOf (am_tv c) .byte ∈ sw_fl ∧ Cond.eq (.length (am_tv c)) (.int (Int32.ofNat (am_sl c))) ∈ sw_fl ∧ am_sl c < 2147483648)) = true := by decide +kernel
theorem sw_el : (List.range 16).all (fun c => (List.range (am_sl c)).all (fun j => decide (Cond.eq (.elem (am_tv c) (.int (Int32.ofNat j))) (.int (am_sc c j)) ∈ sw_fl))) = true := by decide +kernel
theorem sw_ref : am_SC.all (fun e => decide (am_tm e.2.2.1 = Term.string (am_cn e.1) e.2.1 ∨ Cond.eq (am_tm e.2.2.1) (Term.string (am_cn e.1) e.2.1) ∈ sw_fl) && decide (e.2.2.1 < 16)) = true := by decide +kernel
/-- the row of the kinds above -/
def am_ka : List Int32 := [-1, 0, 0, 1, 2, 0, 5]
def am_kt : Term := .static "WrappedHands" "KIND_ABOVE" "[I"
theorem sw_ka : (Cond.arrayOf am_kt .int ∈ sw_fl ∧ Cond.eq (.length am_kt) (.int (Int32.ofNat 7)) ∈ sw_fl) ∧ (List.range 7).all (fun j => decide (Cond.eq (.elem am_kt (.int (Int32.ofNat j))) (.int (am_ka.getD j 0)) ∈ sw_fl)) = true := by decide +kernel
theorem sw_arr {args : Array Value} {s : State} {ty : FieldType} (h : (Cond.arrayClass ty).before args s = true) (ho : ∀ C, ty ≠ .object C) : ∃ c, ArrOfT s c ty ∧ va_RA s c ty := by
  obtain ⟨c, k, comp, h1, h2, h3⟩ := Cond.arrayClass_spec h
  refine ⟨c, fun n z => ⟨fun k h => (by cases h), k, h2, comp, h3⟩, ?_⟩
  cases ty with
  | object C => exact absurd rfl (ho C)
  | _ => exact h1
theorem sw_arrO {args : Array Value} {s : State} {C : String} (h : (Cond.arrayOver (.object C)).before args s = true) : ∃ c, ArrOfT s c (.object C) ∧ va_RA s c (.object C) := by
  obtain ⟨comp, c, k, h1, h2, h3, h4, h5⟩ := Cond.arrayOver_spec h
  exact ⟨c, fun n z => ⟨fun k h => (by cases h), k, h3, comp, h4⟩, k, comp, h3, h4, h1, h5⟩
theorem sw_nl : ∀ ci ∈ List.range 10, (am_NL.any (fun e => e.2.2.1 == ci)) = true := by decide +kernel
theorem sw_wat {args : Array Value} {s : State} {w : Cond} {p : Nat} (hts : ∀ w ∈ lw_tbl, w.before args s = true) (hp : lw_tbl[p]? = some w) : w.before args s = true := hts w (List.mem_of_getElem? hp)
theorem sw_K {args : Array Value} {s : State} (hts : ∀ w ∈ lw_tbl, w.before args s = true) : ∃ (D : va_G) (cA : Nat → ClassId), va_K D am_cl (am_tys cA) s := by
  have hW : ∀ w ∈ am_W, w.before args s = true := fun w h => hts w (List.mem_filter.mp h).1
  have h0 : ∀ ci : Nat, ∃ q : ClassId × (Nat → Nat), ci < 10 → u_Kn s (am_cn ci) (am_TF ci) (am_nf ci) q.1 q.2 := by
    intro ci
    by_cases hc : ci < 10
    · obtain ⟨⟨o, ix, c2, n, p1, p2, p3⟩, he, hf⟩ := List.any_eq_true.mp (sw_nl ci (List.mem_range.mpr hc))
      simp only [beq_iff_eq] at hf
      subst hf
      have hw := List.all_eq_true.mp am_NL_ok _ he
      simp only [Bool.and_eq_true, decide_eq_true_eq] at hw
      obtain ⟨cC, iS, hk⟩ := u_known (n := n) hW (am_ws_in c2 hc) (sw_wat hts hw.2.1)
      exact ⟨(cC, iS), fun _ => hk⟩
    · exact ⟨(0, fun _ => 0), fun h => absurd h hc⟩
  obtain ⟨D, hD⟩ := Classical.axiomOfChoice h0
  obtain ⟨c0, a0, r0⟩ := sw_arr (ty := .int) (hts _ (by decide +kernel)) (fun C h => by cases h)
  obtain ⟨c1, a1, r1⟩ := sw_arr (ty := .byte) (hts _ (by decide +kernel)) (fun C h => by cases h)
  obtain ⟨c2, a2, r2⟩ := sw_arrO (C := RX3) (hts _ (by decide +kernel))
  obtain ⟨c3, a3, r3⟩ := sw_arrO (C := RX1) (hts _ (by decide +kernel))
  obtain ⟨c4, a4, r4⟩ := sw_arrO (C := RX4) (hts _ (by decide +kernel))
  obtain ⟨c5, a5, r5⟩ := sw_arrO (C := "java/lang/String") (hts _ (by decide +kernel))
  refine ⟨(fun c => (D c).1, fun c => (D c).2), fun z => if z = 20 then c0 else if z = 21 then c1 else if z = 22 then c2 else if z = 23 then c3 else if z = 24 then c4 else c5, fun c q hq => ?_, fun k q hq => ?_⟩
  · have hc : c < 10 := (List.getElem?_eq_some_iff.mp hq).1
    rw [am_cl_at c hc] at hq
    cases hq
    exact hD c hc
  · have hk : k < 6 := (List.getElem?_eq_some_iff.mp hq).1
    rcases (show k = 0 ∨ k = 1 ∨ k = 2 ∨ k = 3 ∨ k = 4 ∨ k = 5 by omega) with rfl | rfl | rfl | rfl | rfl | rfl <;> cases hq
    · exact ⟨a0, r0⟩
    · exact ⟨a1, r1⟩
    · exact ⟨a2, r2⟩
    · exact ⟨a3, r3⟩
    · exact ⟨a4, r4⟩
    · exact ⟨a5, r5⟩
theorem sw_str {args : Array Value} {s : State} {A : Nat → Prop} (hg : (Jvm.Cond.and given_1 narrow_1).before args s = true) (hA : ∀ a : Nat, a < s.heap.size → ¬ A a) : ∃ sc : Nat → Nat, ∀ c, c < 16 → (am_tm c).eval args s none [] s = some (.ref (sc c)) ∧ va_O "java/lang/String" (sc c) A s s.heap ∧ va_OF "java/lang/String" "coder" "B" (.int 0) (sc c) A s s.heap ∧ ∃ t, va_OF "java/lang/String" "value" "[B" (.ref t) (sc c) A s s.heap ∧ va_T .byte t (am_sl c) (fun j => .int (am_sc c j)) A s s.heap := by
  have hf : ∀ c ∈ sw_fl, c.before args s = true := flat_of_before _ hg
  have h0 : ∀ c : Nat, ∃ a : Nat, c < 16 → (am_tm c).eval args s none [] s = some (.ref a) ∧ va_O "java/lang/String" a A s s.heap ∧ va_OF "java/lang/String" "coder" "B" (.int 0) a A s s.heap ∧ ∃ t, va_OF "java/lang/String" "value" "[B" (.ref t) a A s s.heap ∧ va_T .byte t (am_sl c) (fun j => .int (am_sc c j)) A s s.heap := by
    intro c
    by_cases hc : c < 16
    · have hm := List.all_eq_true.mp sw_mem c (List.mem_range.mpr hc)
      simp only [decide_eq_true_eq] at hm
      obtain ⟨m1, m2, m3, m4, m5⟩ := hm
      have hel : ∀ j, j < am_sl c → (Cond.eq (.elem (am_tv c) (.int (Int32.ofNat j))) (.int (am_sc c j))).before args s = true := fun j hj => hf _ (of_decide_eq_true (List.all_eq_true.mp (List.all_eq_true.mp sw_el c (List.mem_range.mpr hc)) j (List.mem_range.mpr hj)))
      obtain ⟨a, c2, cC, kC, q1, q2, q3, q4, q5, q6, -⟩ := Cond.exactly_spec (args := args) (first := s) (o := none) (s := s) (idx := []) (t := am_tm c) (cls := "java/lang/String") (hf _ m1)
      obtain ⟨t, ht, hT⟩ := va_Tof (f := fun j => .int (am_sc c j)) (A := A) (by omega) (hf _ m3) (va_eqt (hf _ m4)) (fun j hj => va_eqt (hel j hj)) hA
      exact ⟨a, fun _ => ⟨q1, ⟨cC, q3, q5, by rw [q6]; exact q2, hA a (Array.getElem?_eq_some_iff.mp q3).1⟩, vk_OFof q1 (va_eqt (hf _ m2)) hA, t, vk_OFof q1 ht hA, hT⟩⟩
    · exact ⟨0, fun h => absurd h hc⟩
  obtain ⟨sc, hsc⟩ := Classical.axiomOfChoice h0
  exact ⟨sc, hsc⟩
/-- the constants of a run: the row of the kinds above, the script -/
def am_cs (L : Nat) (xs : Nat → Int32) : Nat → Nat × (Nat → Int32) := fun k => if k = 16 then (7, fun j => am_ka.getD j 0) else (L, xs)
theorem sw_cst {s : State} {b L : Nat} {xs : Nat → Int32} (hts : ∀ w ∈ lw_tbl, w.before #[Value.ref b] s = true) (hX : va_X b L xs s s.heap) (hbl : b < s.heap.size) (hg : (Jvm.Cond.and given_1 narrow_1).before #[Value.ref b] s = true) : ∃ (D : va_G) (cA : Nat → ClassId) (sc : Nat → Nat), sc 17 = b ∧ am_cst s s.heap.size (am_cs L xs) sc D cA s := by
  have hf : ∀ c ∈ sw_fl, c.before #[Value.ref b] s = true := flat_of_before _ hg
  have hA : ∀ a : Nat, a < s.heap.size → ¬ am_A s.heap.size a := fun a h z => by unfold am_A at z; omega
  obtain ⟨D, cA, hK⟩ := sw_K hts
  obtain ⟨sc, hsc⟩ := sw_str hg hA
  obtain ⟨⟨k1, k2⟩, k3⟩ := sw_ka
  obtain ⟨t, ht, hT⟩ := va_Tof (N := 7) (f := fun j => .int (am_ka.getD j 0)) (A := am_A s.heap.size) (by decide) (hf _ k1) (va_eqt (hf _ k2)) (fun j hj => va_eqt (hf _ (of_decide_eq_true (List.all_eq_true.mp k3 j (List.mem_range.mpr hj))))) hA
  have e16 : ∀ c, c < 16 → (if c = 16 then t else if c = 17 then b else sc c) = sc c := fun c hc => by rw [if_neg (by omega), if_neg (by omega)]
  refine ⟨D, cA, fun c => if c = 16 then t else if c = 17 then b else sc c, rfl, hK, va_Zref (hts _ (by decide +kernel)) (hts _ (by decide +kernel)) ht hA, hT, hX, hbl, fun e he => ?_, fun c hc => ?_, fun e he hn => ?_, fun e he => ?_, fun e he => ?_, fun c hc => ?_, ?_, ?_⟩
  · have hr := List.all_eq_true.mp sw_ref e he
    simp only [Bool.and_eq_true, decide_eq_true_eq] at hr
    have hw := List.all_eq_true.mp am_SC_ok e he
    obtain ⟨o, ix, c, q⟩ := e
    simp only [Bool.and_eq_true, decide_eq_true_eq] at hw hr ⊢
    rw [e16 c hr.2]
    refine vk_R.of (sw_wat hts hw.1) ?_
    rcases hr.1 with h | h
    · rw [← h]; exact (hsc c hr.2).1
    · exact va_eqR (hf _ h) (hsc c hr.2).1
  · simp only
    rw [e16 c hc]
    exact (hsc c hc).2.1
  · have hM := am_ML_ok e he
    obtain ⟨o, ix, y, kind, nest, k, q⟩ := e
    simp only [am_MLok, decide_eq_true_eq] at hM hn
    exact va_Nw.of rfl (sw_wat hts (hM.2.1 (by omega)))
  · have hw := List.all_eq_true.mp am_ST_ok e he
    obtain ⟨o, ix, q⟩ := e
    simp only [decide_eq_true_eq] at hw
    exact va_Nw.of rfl (sw_wat hts hw)
  · have hw := List.all_eq_true.mp am_AL_ok e he
    obtain ⟨o, ix, k, q1, q2⟩ := e
    simp only [Bool.and_eq_true, decide_eq_true_eq] at hw
    exact va_AO.of (sw_wat hts hw.2.1)
  · simp only
    rw [e16 c hc]
    exact (hsc c hc).2.2
  · exact va_Zof (hts _ (by decide +kernel)) (hts _ (by decide +kernel)) (va_eqi (hf _ (by decide +kernel))) hA
  · exact va_Zqof (hts _ (by decide +kernel)) (hts _ (by decide +kernel)) (hf _ (by decide +kernel)) hA
/-- the empty memory -/
def am_M0 : am_M := (0, 0, fun _ => (99, 0), fun _ _ => 0, fun _ _ => .null)
/-- the law as the abstract machine runs it -/
def am_law (d L : Nat) (xs : Nat → Int32) : Prop := am_wp d (am_cs L xs) (am_call (am_cs L xs) d) 258 2 (118, 2991) (fun r _ => r = some (.int 1)) 0 [(0, .retAddr 17)] [] am_M0
theorem sw_start {p : Program} {e : Env} {s : State} {m : MethodId} {below : List Frame} {meth : Method} {c : Code} (l : Launch) {b L : Nat} {xs : Nat → Int32} (C0 : lw_At p s m meth c b L xs) (hlaw : am_law 1000 L xs) : W p l e room_1 s m #[Value.ref b] below meth c s.heap [] 0 0 (lw_Z below #[Value.ref b] s) (entryFrame m ([Value.ref b] : List Value).toArray 4) := by
  obtain ⟨hx, hb, hr, hml, hown, hts, hX, hbl, hlocks, hg⟩ := C0
  obtain ⟨D, cA, sc, hsc, hcst⟩ := sw_cst hts hX hbl hg
  have hW : ∀ w ∈ am_W, w.before #[Value.ref b] s = true := fun w h => hts w (List.mem_filter.mp h).1
  have hl := lv_entry ([.ref b]) (n := 4) (Nat.le_of_ble_eq_true rfl)
  rw [lg_entry_eq]
  generalize (lg_sl ([.ref b]) ++ List.replicate (4 - (lg_sl ([.ref b])).length) Slot.unset).toArray = ls at hl ⊢
  have hl : lv_has ls 4 (am_lm s.heap.size sc [(0, .retAddr 17)]) := by
    have e : am_lm s.heap.size sc [(0, .retAddr 17)] = [(0, .ref b)] := by rw [← hsc]; rfl
    rw [e]; exact hl
  have G : am_G p s m #[Value.ref b] c s s.heap.size (am_cs L xs) sc D cA am_M0 (am_ym 258).1.2.1 (am_ym 258).1.2.2.1 (am_ym 258).2.1.1 := ⟨hx, hb, hml, hown, hW, hcst, fun _ _ => rfl, rfl⟩
  have hP : va_P D am_cl (am_ws s.heap.size sc cA am_M0) s.heap := fun k q hq => by cases hq
  have hs : am_sh am_M0 := ⟨fun _ _ => rfl, fun c hc => absurd hc (Nat.not_lt_zero (am_lo c))⟩
  have hend : am_ends (am_ym 258).1.2.1 2 (118, 2991) (fun r _ => r = some (.int 1)) (am_X p l e room_1 s m #[Value.ref b] below meth c (lw_Z below #[Value.ref b] s) s.heap.size sc D cA am_M0 (am_ym 258).1.2.2.1) := by
    refine ⟨fun pc lv M1 v hd h1 h2 h3 hp => ?_, fun pc lv M1 v hd h1 => absurd h1 (by decide), fun pc lv M1 v hd h1 => absurd h1 (by decide), fun pc lv M1 hd h1 => absurd h1 (by decide)⟩
    intro H locs cells slots ls hP1 hS1 hs1 hc hn hl1
    have hv : v = 1 := by cases hp; rfl
    subst hv
    have c1 : cells ≤ 600000 := by
      have : M1.1 = 0 + cells := hc
      omega
    have c2 : slots ≤ 7302250 := by
      have : M1.2.1 = 0 + slots := hn
      omega
    exact va_forget (fun q hq => hS1.2.2 q hq) (W.widen c1 c2 (lw_ret hx hb hr hlocks hd))
  exact am_run (R := room_1) (d := 1000) G (am_met sx_all 1000) sx_all (by decide) (by decide) (by decide) (by decide) am_chk_law (fun h => absurd h (by decide)) hend hlaw s.heap [] 0 0 ls hP va_S.rf hs rfl rfl hl
