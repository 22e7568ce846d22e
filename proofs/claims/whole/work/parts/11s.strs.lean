/-! String.length() and charAt(int) of the constants -/
theorem sx_co_0 : decode prog_14_method_152_code 0 = .ok (.getstatic 38, 3) := by decide +kernel
theorem sx_co_3 : decode prog_14_method_152_code 3 = .ok (.ifCond .eq (10), 3) := by decide +kernel
theorem sx_co_6 : decode prog_14_method_152_code 6 = .ok (.aload_n 0, 1) := by decide +kernel
theorem sx_co_7 : decode prog_14_method_152_code 7 = .ok (.getfield 15, 3) := by decide +kernel
theorem sx_co_10 : decode prog_14_method_152_code 10 = .ok (.goto (4), 3) := by decide +kernel
theorem sx_co_13 : decode prog_14_method_152_code 13 = .ok (.iconst 1, 1) := by decide +kernel
theorem sx_co_14 : decode prog_14_method_152_code 14 = .ok (.ireturn, 1) := by decide +kernel
theorem sx_la_0 : decode prog_14_method_154_code 0 = .ok (.getstatic 38, 3) := by decide +kernel
theorem sx_la_3 : decode prog_14_method_154_code 3 = .ok (.ifCond .eq (14), 3) := by decide +kernel
theorem sx_la_6 : decode prog_14_method_154_code 6 = .ok (.aload_n 0, 1) := by decide +kernel
theorem sx_la_7 : decode prog_14_method_154_code 7 = .ok (.getfield 15, 3) := by decide +kernel
theorem sx_la_10 : decode prog_14_method_154_code 10 = .ok (.ifCond .ne (7), 3) := by decide +kernel
theorem sx_la_13 : decode prog_14_method_154_code 13 = .ok (.iconst 1, 1) := by decide +kernel
theorem sx_la_14 : decode prog_14_method_154_code 14 = .ok (.goto (4), 3) := by decide +kernel
theorem sx_la_17 : decode prog_14_method_154_code 17 = .ok (.iconst 0, 1) := by decide +kernel
theorem sx_la_18 : decode prog_14_method_154_code 18 = .ok (.ireturn, 1) := by decide +kernel
theorem sx_le_0 : decode prog_14_method_54_code 0 = .ok (.aload_n 0, 1) := by decide +kernel
theorem sx_le_1 : decode prog_14_method_54_code 1 = .ok (.getfield 9, 3) := by decide +kernel
theorem sx_le_4 : decode prog_14_method_54_code 4 = .ok (.arraylength, 1) := by decide +kernel
theorem sx_le_5 : decode prog_14_method_54_code 5 = .ok (.aload_n 0, 1) := by decide +kernel
theorem sx_le_6 : decode prog_14_method_54_code 6 = .ok (.invokevirtual 335, 3) := by decide +kernel
theorem sx_le_9 : decode prog_14_method_54_code 9 = .ok (.ishr, 1) := by decide +kernel
theorem sx_le_10 : decode prog_14_method_54_code 10 = .ok (.ireturn, 1) := by decide +kernel
theorem sx_pc_0 : decode prog_18_method_11_code 0 = .ok (.iload_n 0, 1) := by decide +kernel
theorem sx_pc_1 : decode prog_18_method_11_code 1 = .ok (.ifCond .lt (8), 3) := by decide +kernel
theorem sx_pc_4 : decode prog_18_method_11_code 4 = .ok (.iload_n 0, 1) := by decide +kernel
theorem sx_pc_5 : decode prog_18_method_11_code 5 = .ok (.iload_n 1, 1) := by decide +kernel
theorem sx_pc_6 : decode prog_18_method_11_code 6 = .ok (.if_icmp .lt (10), 3) := by decide +kernel
theorem sx_pc_9 : decode prog_18_method_11_code 9 = .ok (.aload_n 2, 1) := by decide +kernel
theorem sx_pc_10 : decode prog_18_method_11_code 10 = .ok (.iload_n 0, 1) := by decide +kernel
theorem sx_pc_11 : decode prog_18_method_11_code 11 = .ok (.iload_n 1, 1) := by decide +kernel
theorem sx_pc_12 : decode prog_18_method_11_code 12 = .ok (.invokestatic 95, 3) := by decide +kernel
theorem sx_pc_15 : decode prog_18_method_11_code 15 = .ok (.athrow, 1) := by decide +kernel
theorem sx_pc_16 : decode prog_18_method_11_code 16 = .ok (.iload_n 0, 1) := by decide +kernel
theorem sx_pc_17 : decode prog_18_method_11_code 17 = .ok (.ireturn, 1) := by decide +kernel
theorem sx_ci_0 : decode prog_14_method_155_code 0 = .ok (.iload_n 0, 1) := by decide +kernel
theorem sx_ci_1 : decode prog_14_method_155_code 1 = .ok (.iload_n 1, 1) := by decide +kernel
theorem sx_ci_2 : decode prog_14_method_155_code 2 = .ok (.getstatic 1053, 3) := by decide +kernel
theorem sx_ci_5 : decode prog_14_method_155_code 5 = .ok (.invokestatic 1059, 3) := by decide +kernel
theorem sx_ci_8 : decode prog_14_method_155_code 8 = .ok (.pop, 1) := by decide +kernel
theorem sx_ci_9 : decode prog_14_method_155_code 9 = .ok (.return_, 1) := by decide +kernel
theorem sx_lc_0 : decode prog_15_method_2_code 0 = .ok (.iload_n 1, 1) := by decide +kernel
theorem sx_lc_1 : decode prog_15_method_2_code 1 = .ok (.aload_n 0, 1) := by decide +kernel
theorem sx_lc_2 : decode prog_15_method_2_code 2 = .ok (.arraylength, 1) := by decide +kernel
theorem sx_lc_3 : decode prog_15_method_2_code 3 = .ok (.invokestatic 9, 3) := by decide +kernel
theorem sx_lc_6 : decode prog_15_method_2_code 6 = .ok (.aload_n 0, 1) := by decide +kernel
theorem sx_lc_7 : decode prog_15_method_2_code 7 = .ok (.iload_n 1, 1) := by decide +kernel
theorem sx_lc_8 : decode prog_15_method_2_code 8 = .ok (.baload, 1) := by decide +kernel
theorem sx_lc_9 : decode prog_15_method_2_code 9 = .ok (.sipush 255, 3) := by decide +kernel
theorem sx_lc_12 : decode prog_15_method_2_code 12 = .ok (.iand, 1) := by decide +kernel
theorem sx_lc_13 : decode prog_15_method_2_code 13 = .ok (.i2c, 1) := by decide +kernel
theorem sx_lc_14 : decode prog_15_method_2_code 14 = .ok (.ireturn, 1) := by decide +kernel
theorem sx_ca_0 : decode prog_14_method_56_code 0 = .ok (.aload_n 0, 1) := by decide +kernel
theorem sx_ca_1 : decode prog_14_method_56_code 1 = .ok (.invokevirtual 492, 3) := by decide +kernel
theorem sx_ca_4 : decode prog_14_method_56_code 4 = .ok (.ifCond .eq (12), 3) := by decide +kernel
theorem sx_ca_7 : decode prog_14_method_56_code 7 = .ok (.aload_n 0, 1) := by decide +kernel
theorem sx_ca_8 : decode prog_14_method_56_code 8 = .ok (.getfield 9, 3) := by decide +kernel
theorem sx_ca_11 : decode prog_14_method_56_code 11 = .ok (.iload_n 1, 1) := by decide +kernel
theorem sx_ca_12 : decode prog_14_method_56_code 12 = .ok (.invokestatic 495, 3) := by decide +kernel
theorem sx_ca_15 : decode prog_14_method_56_code 15 = .ok (.ireturn, 1) := by decide +kernel
theorem sx_ca_16 : decode prog_14_method_56_code 16 = .ok (.aload_n 0, 1) := by decide +kernel
theorem sx_ca_17 : decode prog_14_method_56_code 17 = .ok (.getfield 9, 3) := by decide +kernel
theorem sx_ca_20 : decode prog_14_method_56_code 20 = .ok (.iload_n 1, 1) := by decide +kernel
theorem sx_ca_21 : decode prog_14_method_56_code 21 = .ok (.invokestatic 498, 3) := by decide +kernel
theorem sx_ca_24 : decode prog_14_method_56_code 24 = .ok (.ireturn, 1) := by decide +kernel
def sx_Qv : Array Value → State → Outcome → State → Prop := fun _ st oc t => oc = .returned none ∧ t.heap = st.heap
section SX
variable {l : Launch} {S0 : State} {b : Nat} {cs : Nat → Nat × (Nat → Int32)} {sc : Nat → Nat} {D : va_G} {cA : Nat → ClassId}
theorem sx_blind {as : List Value} : FrameBlind (va_Pc as (am_Ps S0 b cs sc D cA)) := fun a U g mk q => ⟨q.1, q.2.1, am_cst_same (u := U) (U := U.calling g mk a) rfl q.2.2⟩
theorem sx_kept {s : State} (hq : ∀ q, q < b → s.heap[q]? = S0.heap[q]?) : ∀ q : Nat, q < S0.heap.size → ¬ am_A b q → s.heap[q]? = S0.heap[q]? := fun q _ h => hq q (by unfold am_A at h; omega)
theorem sx_pre {s : State} {args : Array Value} (hq : ∀ q, q < b → s.heap[q]? = S0.heap[q]?) (hcst : am_cst S0 b cs sc D cA s) : ∀ U : State, U.heap = s.heap → s.WarmedH U.vm → am_Ps S0 b cs sc D cA U := fun U hU hW => ⟨fun q h => by rw [hU]; exact hq q h, am_cst_moved hW hcst⟩
theorem sx_goI {p : Program} {l : Launch} {e : Env} {R : Room} {s : State} {m : MethodId} {args : Array Value} {below : List Frame} {meth : Method} {c : Code} {Q : State → Prop} {pc : Nat} {H : Heap} {locs : List Loc} {cells slots : Nat} {ls : Array Slot} {st0 rest : List Value} {r : Int32} {av : Array Value} (hr : va_Run p l e R s m args below meth c H locs cells slots 0 0 (F0 m pc ls st0) rest (am_Ql r av) (fun _ => False))
    (kk : W p l e R s m args below meth c H locs cells slots Q (F0 m (pc + 3) ls (.int r :: rest))) : W p l e R s m args below meth c H locs cells slots Q (F0 m pc ls st0) := am_callgoS hr kk
theorem sx_goV {p : Program} {l : Launch} {e : Env} {R : Room} {s : State} {m : MethodId} {args : Array Value} {below : List Frame} {meth : Method} {c : Code} {Q : State → Prop} {pc : Nat} {H : Heap} {locs : List Loc} {cells slots : Nat} {ls : Array Slot} {st0 rest : List Value} {av : Array Value} (hr : va_Run p l e R s m args below meth c H locs cells slots 0 0 (F0 m pc ls st0) rest (sx_Qv av) (fun _ => False))
    (kk : W p l e R s m args below meth c H locs cells slots Q (F0 m (pc + 3) ls rest)) : W p l e R s m args below meth c H locs cells slots Q (F0 m pc ls st0) := by
  intro T hT X
  obtain ⟨v, st₀, t, T', L, h0, X', hL, e1, e2, ⟨hv, hh⟩, stp⟩ := hr T hT X
  cases hv
  cases L with
  | cons q L => exact (hL q List.mem_cons_self).elim
  | nil =>
    obtain ⟨t2, a1, b1⟩ := kk T' (by rw [e1, hh, h0]) (by simpa using X')
    exact ⟨t2, stp t2 a1, b1⟩
theorem sx_coder {k : Nat} (hk16 : k < 16) : Met l (⟨"java/lang/String", "coder", "()B"⟩ : MethodName) (Cond.code (⟨"java/lang/String", "coder", "()B"⟩ : MethodName) prog_14_method_152_code 1 (some .byte) :: am_W) { frames := 1, cells := 0, slots := 0, locals := 40 } (va_Pc [.ref (sc k)] (am_Ps S0 b cs sc D cA)) (am_Ql 0) 0 0 (fun _ => False) := by
  refine Met.ofW (cc := prog_14_method_152_code) (maxL := 1) (ret := some .byte) (by decide) rfl ?_
  intro p e s m args below meth c s₁ B hml hv
  obtain ⟨rfl, hq, hcst⟩ := hv
  have hx := B.exec
  have hb := B.bytes
  have hr := B.returns
  have hlocks := B.notSynchronized
  have hts : ∀ w ∈ am_W, w.before ([.ref (sc k)] : List Value).toArray s = true := fun w h => atoms_spec (ws := Cond.code (⟨"java/lang/String", "coder", "()B"⟩ : MethodName) prog_14_method_152_code 1 (some .byte) :: am_W) B.pre w (List.mem_cons_of_mem _ h)
  have hown : s.vm.findClass "java/lang/String" = some m.cls := findClass_of_methodNamed B.named
  have hS : va_S (am_A b) s.heap s.heap [] := va_S.rf
  have hks := hcst.2.2.2.2.2.2.2.2.2.2
  have hk := sx_kept hq
  have hl := lv_entry ([.ref (sc k)]) (n := 1) (Nat.le_of_ble_eq_true rfl)
  rw [lg_entry_eq]
  generalize (lg_sl ([.ref (sc k)]) ++ List.replicate (1 - (lg_sl ([.ref (sc k)])).length) Slot.unset).toArray = ls at hl ⊢
  have hl : lv_has ls 1 [(0, .ref (sc k))] := hl
  refine va_gets hx hb (hks.2.1.kept hk) hS hown (hts ((Cond.fieldLink "java/lang/String" 38 "java/lang/String" "COMPACT_STRINGS" "Z")) (by decide +kernel)) (fun _ h => h) sx_co_0 ?_
  refine lv_if_eq (tgt := 13) hx hb sx_co_3 (by decide) (fun q => absurd q (by decide)) (fun _ => ?_)
  refine lv_aload_n hx hb sx_co_6 rfl (lv_at hl 0 rfl) ?_
  refine vk_getf hx hb ((hks.1 k hk16).1.kept hk) hS hown (hts ((Cond.fieldLink "java/lang/String" 15 "java/lang/String" "coder" "B")) (by decide +kernel)) (fun _ h => h) sx_co_7 ?_
  refine lv_goto (tgt := 14) hx hb sx_co_10 (by decide) ?_
  exact W.zret (v := 0) (ty := .byte) hx hb hr rfl (fun t ht hW => ⟨rfl, ht⟩) (fun q h => by cases h) sx_co_14
theorem sx_latin {k : Nat} (hk16 : k < 16) : Met l (⟨"java/lang/String", "isLatin1", "()Z"⟩ : MethodName) (Cond.code (⟨"java/lang/String", "isLatin1", "()Z"⟩ : MethodName) prog_14_method_154_code 1 (some .boolean) :: am_W) { frames := 1, cells := 0, slots := 0, locals := 40 } (va_Pc [.ref (sc k)] (am_Ps S0 b cs sc D cA)) (am_Ql 1) 0 0 (fun _ => False) := by
  refine Met.ofW (cc := prog_14_method_154_code) (maxL := 1) (ret := some .boolean) (by decide) rfl ?_
  intro p e s m args below meth c s₁ B hml hv
  obtain ⟨rfl, hq, hcst⟩ := hv
  have hx := B.exec
  have hb := B.bytes
  have hr := B.returns
  have hlocks := B.notSynchronized
  have hts : ∀ w ∈ am_W, w.before ([.ref (sc k)] : List Value).toArray s = true := fun w h => atoms_spec (ws := Cond.code (⟨"java/lang/String", "isLatin1", "()Z"⟩ : MethodName) prog_14_method_154_code 1 (some .boolean) :: am_W) B.pre w (List.mem_cons_of_mem _ h)
  have hown : s.vm.findClass "java/lang/String" = some m.cls := findClass_of_methodNamed B.named
  have hS : va_S (am_A b) s.heap s.heap [] := va_S.rf
  have hks := hcst.2.2.2.2.2.2.2.2.2.2
  have hk := sx_kept hq
  have hl := lv_entry ([.ref (sc k)]) (n := 1) (Nat.le_of_ble_eq_true rfl)
  rw [lg_entry_eq]
  generalize (lg_sl ([.ref (sc k)]) ++ List.replicate (1 - (lg_sl ([.ref (sc k)])).length) Slot.unset).toArray = ls at hl ⊢
  have hl : lv_has ls 1 [(0, .ref (sc k))] := hl
  refine va_gets hx hb (hks.2.1.kept hk) hS hown (hts ((Cond.fieldLink "java/lang/String" 38 "java/lang/String" "COMPACT_STRINGS" "Z")) (by decide +kernel)) (fun _ h => h) sx_la_0 ?_
  refine lv_if_eq (tgt := 17) hx hb sx_la_3 (by decide) (fun q => absurd q (by decide)) (fun _ => ?_)
  refine lv_aload_n hx hb sx_la_6 rfl (lv_at hl 0 rfl) ?_
  refine vk_getf hx hb ((hks.1 k hk16).1.kept hk) hS hown (hts ((Cond.fieldLink "java/lang/String" 15 "java/lang/String" "coder" "B")) (by decide +kernel)) (fun _ h => h) sx_la_7 ?_
  refine lv_if_ne (tgt := 17) hx hb sx_la_10 (by decide) (fun q => absurd rfl q) (fun _ => ?_)
  refine lv_iconst (v := 1) hx hb sx_la_13 (by decide) ?_
  refine lv_goto (tgt := 18) hx hb sx_la_14 (by decide) ?_
  exact W.zret (v := 1) (ty := .boolean) hx hb hr rfl (fun t ht hW => ⟨rfl, ht⟩) (fun q h => by cases h) sx_la_18
theorem sx_len {k : Nat} (hk16 : k < 16) : Met l (⟨"java/lang/String", "length", "()I"⟩ : MethodName) (Cond.code (⟨"java/lang/String", "length", "()I"⟩ : MethodName) prog_14_method_54_code 1 (some .int) :: am_W) { frames := 7, cells := 0, slots := 0, locals := 448 } (va_Pc [.ref (sc k)] (am_Ps S0 b cs sc D cA)) (am_Ql (Int32.ofNat (am_sl k))) 0 0 (fun _ => False) := by
  refine Met.ofW (cc := prog_14_method_54_code) (maxL := 1) (ret := some .int) (by decide) rfl ?_
  intro p e s m args below meth c s₁ B hml hv
  obtain ⟨rfl, hq, hcst⟩ := hv
  have hx := B.exec
  have hb := B.bytes
  have hr := B.returns
  have hlocks := B.notSynchronized
  have hts : ∀ w ∈ am_W, w.before ([.ref (sc k)] : List Value).toArray s = true := fun w h => atoms_spec (ws := Cond.code (⟨"java/lang/String", "length", "()I"⟩ : MethodName) prog_14_method_54_code 1 (some .int) :: am_W) B.pre w (List.mem_cons_of_mem _ h)
  have hown : s.vm.findClass "java/lang/String" = some m.cls := findClass_of_methodNamed B.named
  have hS : va_S (am_A b) s.heap s.heap [] := va_S.rf
  have hks := hcst.2.2.2.2.2.2.2.2.2.2
  have hk := sx_kept hq
  have hl := lv_entry ([.ref (sc k)]) (n := 1) (Nat.le_of_ble_eq_true rfl)
  rw [lg_entry_eq]
  generalize (lg_sl ([.ref (sc k)]) ++ List.replicate (1 - (lg_sl ([.ref (sc k)])).length) Slot.unset).toArray = ls at hl ⊢
  have hl : lv_has ls 1 [(0, .ref (sc k))] := hl
  obtain ⟨t0, ht1, ht2⟩ := (hks.1 k hk16).2
  refine lv_aload_n hx hb sx_le_0 rfl (lv_at hl 0 rfl) ?_
  refine vk_getf hx hb (ht1.kept hk) hS hown (hts ((Cond.fieldLink "java/lang/String" 9 "java/lang/String" "value" "[B")) (by decide +kernel)) (fun _ h => h) sx_le_1 ?_
  refine va_tlen hx hb (ht2.kept hk) hS (v := Int32.ofNat (am_sl k)) rfl sx_le_4 ?_
  refine lv_aload_n hx hb sx_le_5 rfl (lv_at hl 0 rfl) ?_
  refine sx_goI (va_runV (C := "java/lang/String") (As := []) (rest := [.int (Int32.ofNat (am_sl k))]) ⟨hx, hb, hml, hown, hts⟩ (sx_coder hk16) (cwV 0 hts (am_GoodIn (fun w hw => by
    simp only [wsV, List.mem_append, List.mem_cons, List.not_mem_nil, or_false] at hw
    rcases hw with (rfl | rfl | rfl | rfl) | rfl | hw
    · decide +kernel
    · decide +kernel
    · decide +kernel
    · decide +kernel
    · exact List.mem_filter.mpr ⟨List.mem_of_getElem? (i := 821) (by decide +kernel), (by first | rfl | simp [goodWord, Cond.onTables, Cond.keeps, Cond.steady])⟩
    · exact hw)) rfl rfl rfl ⟨rfl, by decide +kernel, by decide +kernel, by decide +kernel⟩ ⟨Nat.le_of_ble_eq_true rfl, Nat.le_of_ble_eq_true rfl⟩) ⟨sx_blind, (by obtain ⟨cell, h1, h2, h3, h4⟩ := (hcst.2.2.2.2.2.2.1 k hk16).kept hk; exact ⟨cell, h1, h2, h3⟩), fun U hU hW => ⟨rfl, sx_pre (args := #[]) hq hcst U hU hW⟩⟩ rfl rfl hl.1 rfl (lv_room (Nat.le_of_ble_eq_true rfl)) sx_le_6 ⟨Nat.zero_le _, Nat.zero_le _⟩) ?_
  refine lv_ishr hx hb sx_le_9 ?_
  have e : Int32.ofNat (am_sl k) >>> ((0 : Int32) &&& 31) = Int32.ofNat (am_sl k) := by
    have : ∀ z ∈ List.range 16, Int32.ofNat (am_sl z) >>> ((0 : Int32) &&& 31) = Int32.ofNat (am_sl z) := by decide +kernel
    exact this k (List.mem_range.mpr hk16)
  rw [e]
  exact W.iret (v := Int32.ofNat (am_sl k)) hx hb hr (fun t ht hW => ⟨rfl, ht⟩) (fun q h => by cases h) sx_le_10
theorem sx_pci {x n : Int32} {v : Value} (hv : v = .null ∨ ∃ a, v = .ref a) (h0 : ¬ x < 0) (h1 : x < n) : Met l (⟨"jdk/internal/util/Preconditions", "checkIndex", "(IILjava/util/function/BiFunction;)I"⟩ : MethodName) (Cond.code (⟨"jdk/internal/util/Preconditions", "checkIndex", "(IILjava/util/function/BiFunction;)I"⟩ : MethodName) prog_18_method_11_code 3 (some .int) :: am_W) { frames := 1, cells := 0, slots := 0, locals := 40 } (va_Pc [.int x, .int n, v] (am_Ps S0 b cs sc D cA)) (am_Ql x) 0 0 (fun _ => False) := by
  refine Met.ofW (cc := prog_18_method_11_code) (maxL := 3) (ret := some .int) (by decide) rfl ?_
  intro p e s m args below meth c s₁ B hml hv
  obtain ⟨rfl, hq, hcst⟩ := hv
  have hx := B.exec
  have hb := B.bytes
  have hr := B.returns
  have hlocks := B.notSynchronized
  have hts : ∀ w ∈ am_W, w.before ([.int x, .int n, v] : List Value).toArray s = true := fun w h => atoms_spec (ws := Cond.code (⟨"jdk/internal/util/Preconditions", "checkIndex", "(IILjava/util/function/BiFunction;)I"⟩ : MethodName) prog_18_method_11_code 3 (some .int) :: am_W) B.pre w (List.mem_cons_of_mem _ h)
  have hown : s.vm.findClass "jdk/internal/util/Preconditions" = some m.cls := findClass_of_methodNamed B.named
  have hS : va_S (am_A b) s.heap s.heap [] := va_S.rf
  have hks := hcst.2.2.2.2.2.2.2.2.2.2
  have hk := sx_kept hq
  have hcat : v.category = 1 := by rcases hv with rfl | ⟨a, rfl⟩ <;> rfl
  have hsl : lg_sl [.int x, .int n, v] = [.val (.int x), .val (.int n), .val v] := by
    rcases hv with rfl | ⟨a, rfl⟩ <;> rfl
  have hl := lv_entry ([.int x, .int n, v]) (n := 3) (by rw [hsl]; exact Nat.le_of_ble_eq_true rfl)
  rw [lg_entry_eq]
  generalize (lg_sl ([.int x, .int n, v]) ++ List.replicate (3 - (lg_sl ([.int x, .int n, v])).length) Slot.unset).toArray = ls at hl ⊢
  have hl : lv_has ls 3 [(0, .int x), (1, .int n), (2, v)] := hl
  refine lv_iload_n hx hb sx_pc_0 rfl (lv_at hl 0 rfl) ?_
  refine lv_if_lt (tgt := 9) hx hb sx_pc_1 (by decide) (fun q => absurd q h0) (fun _ => ?_)
  refine lv_iload_n hx hb sx_pc_4 rfl (lv_at hl 0 rfl) ?_
  refine lv_iload_n hx hb sx_pc_5 rfl (lv_at hl 1 rfl) ?_
  refine lv_icmp_lt (tgt := 16) hx hb sx_pc_6 (by decide) (fun _ => ?_) (fun q => absurd h1 q)
  refine lv_iload_n hx hb sx_pc_16 rfl (lv_at hl 0 rfl) ?_
  exact W.iret (v := x) hx hb hr (fun t ht hW => ⟨rfl, ht⟩) (fun q h => by cases h) sx_pc_17
theorem sx_ci {x n : Int32} (h0 : ¬ x < 0) (h1 : x < n) : Met l (⟨"java/lang/String", "checkIndex", "(II)V"⟩ : MethodName) (Cond.code (⟨"java/lang/String", "checkIndex", "(II)V"⟩ : MethodName) prog_14_method_155_code 2 (none) :: am_W) { frames := 3, cells := 0, slots := 0, locals := 120 } (va_Pc [.int x, .int n] (am_Ps S0 b cs sc D cA)) (sx_Qv) 0 0 (fun _ => False) := by
  refine Met.ofW (cc := prog_14_method_155_code) (maxL := 2) (ret := none) (by decide) rfl ?_
  intro p e s m args below meth c s₁ B hml hv
  obtain ⟨rfl, hq, hcst⟩ := hv
  have hx := B.exec
  have hb := B.bytes
  have hr := B.returns
  have hlocks := B.notSynchronized
  have hts : ∀ w ∈ am_W, w.before ([.int x, .int n] : List Value).toArray s = true := fun w h => atoms_spec (ws := Cond.code (⟨"java/lang/String", "checkIndex", "(II)V"⟩ : MethodName) prog_14_method_155_code 2 (none) :: am_W) B.pre w (List.mem_cons_of_mem _ h)
  have hown : s.vm.findClass "java/lang/String" = some m.cls := findClass_of_methodNamed B.named
  have hS : va_S (am_A b) s.heap s.heap [] := va_S.rf
  have hks := hcst.2.2.2.2.2.2.2.2.2.2
  have hk := sx_kept hq
  have hl := lv_entry ([.int x, .int n]) (n := 2) (Nat.le_of_ble_eq_true rfl)
  rw [lg_entry_eq]
  generalize (lg_sl ([.int x, .int n]) ++ List.replicate (2 - (lg_sl ([.int x, .int n])).length) Slot.unset).toArray = ls at hl ⊢
  have hl : lv_has ls 2 [(0, .int x), (1, .int n)] := hl
  have key : ∀ v : Value, (v = .null ∨ ∃ a, v = .ref a) → va_Z "jdk/internal/util/Preconditions" "SIOOBE_FORMATTER" "Ljava/util/function/BiFunction;" v (am_A b) s S0.heap → W p l e (headSpec (Cond.code (⟨"java/lang/String", "checkIndex", "(II)V"⟩ : MethodName) prog_14_method_155_code 2 (none) :: am_W) { frames := 3, cells := 0, slots := 0, locals := 120 }).room s m ([.int x, .int n] : List Value).toArray below meth c s.heap [] 0 0 (MQ below sx_Qv ([.int x, .int n] : List Value).toArray s 0 0 (fun _ => False)) (F0 m 0 ls []) := by
    intro v hv hZ
    refine lv_iload_n hx hb sx_ci_0 rfl (lv_at hl 0 rfl) ?_
    refine lv_iload_n hx hb sx_ci_1 rfl (lv_at hl 1 rfl) ?_
    refine va_gets hx hb (hZ.kept hk) hS hown (hts ((Cond.fieldLink "java/lang/String" 1053 "jdk/internal/util/Preconditions" "SIOOBE_FORMATTER" "Ljava/util/function/BiFunction;")) (by decide +kernel)) (fun _ h => h) sx_ci_2 ?_
    refine sx_goI (va_runS (As := [.int x, .int n, v]) (rest := []) ⟨hx, hb, hml, hown, hts⟩ (sx_pci hv h0 h1) (va_cwS 3 hts (am_GoodIn (fun w hw => by
    simp only [va_wsS, List.mem_append, List.mem_cons, List.not_mem_nil, or_false] at hw
    rcases hw with (rfl | rfl | rfl) | rfl | hw
    · decide +kernel
    · decide +kernel
    · decide +kernel
    · exact List.mem_filter.mpr ⟨List.mem_of_getElem? (i := 842) (by decide +kernel), (by first | rfl | simp [goodWord, Cond.onTables, Cond.keeps, Cond.steady])⟩
    · exact hw)) rfl rfl rfl ⟨by decide +kernel, by decide +kernel, by decide +kernel⟩ ⟨Nat.le_of_ble_eq_true rfl, Nat.le_of_ble_eq_true rfl⟩) ⟨sx_blind, fun U hU hW => ⟨rfl, sx_pre (args := #[]) hq hcst U hU hW⟩⟩ rfl rfl hl.1 rfl (lv_room (Nat.le_of_ble_eq_true rfl)) sx_ci_5 ⟨Nat.zero_le _, Nat.zero_le _⟩) ?_
    refine lv_pop hx hb sx_ci_8 rfl ?_
    exact W.vret hx hb hr (fun t ht hW => ⟨rfl, ht⟩) (fun q h => by cases h) sx_ci_9
  rcases hks.2.2 with hZ | ⟨t0, hZ⟩
  · exact key _ (Or.inl rfl) hZ
  · exact key _ (Or.inr ⟨t0, rfl⟩) hZ
theorem sx_lc {k : Nat} (hk16 : k < 16) {x : Int32} {t0 : Nat} (hin : vp_in x (am_sl k)) : Met l (⟨"java/lang/StringLatin1", "charAt", "([BI)C"⟩ : MethodName) (Cond.code (⟨"java/lang/StringLatin1", "charAt", "([BI)C"⟩ : MethodName) prog_15_method_2_code 2 (some .char) :: am_W) { frames := 5, cells := 0, slots := 0, locals := 300 } (va_Pc [.ref t0, .int x] (fun U => am_Ps S0 b cs sc D cA U ∧ va_T .byte t0 (am_sl k) (fun j => .int (am_sc k j)) (am_A b) U S0.heap)) (am_Ql (am_sc k x.toNatClampNeg)) 0 0 (fun _ => False) := by
  refine Met.ofW (cc := prog_15_method_2_code) (maxL := 2) (ret := some .char) (by decide) rfl ?_
  intro p e s m args below meth c s₁ B hml hv
  obtain ⟨rfl, ⟨hq, hcst⟩, hT0⟩ := hv
  have hx := B.exec
  have hb := B.bytes
  have hr := B.returns
  have hlocks := B.notSynchronized
  have hts : ∀ w ∈ am_W, w.before ([.ref t0, .int x] : List Value).toArray s = true := fun w h => atoms_spec (ws := Cond.code (⟨"java/lang/StringLatin1", "charAt", "([BI)C"⟩ : MethodName) prog_15_method_2_code 2 (some .char) :: am_W) B.pre w (List.mem_cons_of_mem _ h)
  have hown : s.vm.findClass "java/lang/StringLatin1" = some m.cls := findClass_of_methodNamed B.named
  have hS : va_S (am_A b) s.heap s.heap [] := va_S.rf
  have hks := hcst.2.2.2.2.2.2.2.2.2.2
  have hk := sx_kept hq
  have hl := lv_entry ([.ref t0, .int x]) (n := 2) (Nat.le_of_ble_eq_true rfl)
  rw [lg_entry_eq]
  generalize (lg_sl ([.ref t0, .int x]) ++ List.replicate (2 - (lg_sl ([.ref t0, .int x])).length) Slot.unset).toArray = ls at hl ⊢
  have hl : lv_has ls 2 [(0, .ref t0), (1, .int x)] := hl
  have hT := hT0.kept hk
  have hsl : am_sl k < 2 ^ 31 := by
    have : ∀ z ∈ List.range 16, am_sl z < 2 ^ 31 := by decide +kernel
    exact this k (List.mem_range.mpr hk16)
  obtain ⟨j, hj, rfl⟩ := vp_in_of hin hsl
  refine lv_iload_n hx hb sx_lc_0 rfl (lv_at hl 1 rfl) ?_
  refine lv_aload_n hx hb sx_lc_1 rfl (lv_at hl 0 rfl) ?_
  refine va_tlen hx hb hT hS (v := Int32.ofNat (am_sl k)) rfl sx_lc_2 ?_
  refine sx_goV (va_runS (As := [.int (nI j), .int (Int32.ofNat (am_sl k))]) (rest := []) ⟨hx, hb, hml, hown, hts⟩ (sx_ci (nI_pos (by omega)) (nI_lt hj hsl)) (va_cwS 2 hts (am_GoodIn (fun w hw => by
    simp only [va_wsS, List.mem_append, List.mem_cons, List.not_mem_nil, or_false] at hw
    rcases hw with (rfl | rfl | rfl) | rfl | hw
    · decide +kernel
    · decide +kernel
    · decide +kernel
    · exact List.mem_filter.mpr ⟨List.mem_of_getElem? (i := 837) (by decide +kernel), (by first | rfl | simp [goodWord, Cond.onTables, Cond.keeps, Cond.steady])⟩
    · exact hw)) rfl rfl rfl ⟨by decide +kernel, by decide +kernel, by decide +kernel⟩ ⟨Nat.le_of_ble_eq_true rfl, Nat.le_of_ble_eq_true rfl⟩) ⟨sx_blind, fun U hU hW => ⟨rfl, sx_pre (args := #[]) hq hcst U hU hW⟩⟩ rfl rfl hl.1 rfl (lv_room (Nat.le_of_ble_eq_true rfl)) sx_lc_3 ⟨Nat.zero_le _, Nat.zero_le _⟩) ?_
  refine lv_aload_n hx hb sx_lc_6 rfl (lv_at hl 0 rfl) ?_
  refine lv_iload_n hx hb sx_lc_7 rfl (lv_at hl 1 rfl) ?_
  refine va_tb hx hb hT hS hin (v := .int (am_sc k j)) (by rw [nI_clamp (by omega)]) sx_lc_8 ?_
  refine lv_sipush (v := 255) hx hb sx_lc_9 (by decide) ?_
  refine lv_iand hx hb sx_lc_12 ?_
  refine lv_i2c (v := am_sc k j) hx hb sx_lc_13 ?_ ?_
  · have : ∀ z ∈ List.range 16, ∀ w ∈ List.range (am_sl z), ((am_sc z w &&& 255).toUInt32 % 65536).toInt32 = am_sc z w := by decide +kernel
    exact this k (List.mem_range.mpr hk16) j (List.mem_range.mpr hj)
  · have e : narrow .char (.int (am_sc k j)) = .int (am_sc k j) := by
      have : ∀ z ∈ List.range 16, ∀ w ∈ List.range (am_sl z), narrow .char (.int (am_sc z w)) = .int (am_sc z w) := by decide +kernel
      exact this k (List.mem_range.mpr hk16) j (List.mem_range.mpr hj)
    have e2 : am_sc k (nI j).toNatClampNeg = am_sc k j := by rw [nI_clamp (by omega)]
    exact W.zret (v := am_sc k j) (ty := .char) hx hb hr e (fun t ht hW => ⟨by rw [e2], ht⟩) (fun q h => by cases h) sx_lc_14
theorem sx_char {k : Nat} (hk16 : k < 16) {x : Int32} (hin : vp_in x (am_sl k)) : Met l (⟨"java/lang/String", "charAt", "(I)C"⟩ : MethodName) (Cond.code (⟨"java/lang/String", "charAt", "(I)C"⟩ : MethodName) prog_14_method_56_code 2 (some .char) :: am_W) { frames := 7, cells := 0, slots := 0, locals := 448 } (va_Pc [.ref (sc k), .int x] (am_Ps S0 b cs sc D cA)) (am_Ql (am_sc k x.toNatClampNeg)) 0 0 (fun _ => False) := by
  refine Met.ofW (cc := prog_14_method_56_code) (maxL := 2) (ret := some .char) (by decide) rfl ?_
  intro p e s m args below meth c s₁ B hml hv
  obtain ⟨rfl, hq, hcst⟩ := hv
  have hx := B.exec
  have hb := B.bytes
  have hr := B.returns
  have hlocks := B.notSynchronized
  have hts : ∀ w ∈ am_W, w.before ([.ref (sc k), .int x] : List Value).toArray s = true := fun w h => atoms_spec (ws := Cond.code (⟨"java/lang/String", "charAt", "(I)C"⟩ : MethodName) prog_14_method_56_code 2 (some .char) :: am_W) B.pre w (List.mem_cons_of_mem _ h)
  have hown : s.vm.findClass "java/lang/String" = some m.cls := findClass_of_methodNamed B.named
  have hS : va_S (am_A b) s.heap s.heap [] := va_S.rf
  have hks := hcst.2.2.2.2.2.2.2.2.2.2
  have hk := sx_kept hq
  have hl := lv_entry ([.ref (sc k), .int x]) (n := 2) (Nat.le_of_ble_eq_true rfl)
  rw [lg_entry_eq]
  generalize (lg_sl ([.ref (sc k), .int x]) ++ List.replicate (2 - (lg_sl ([.ref (sc k), .int x])).length) Slot.unset).toArray = ls at hl ⊢
  have hl : lv_has ls 2 [(0, .ref (sc k)), (1, .int x)] := hl
  obtain ⟨t0, ht1, ht2⟩ := (hks.1 k hk16).2
  refine lv_aload_n hx hb sx_ca_0 rfl (lv_at hl 0 rfl) ?_
  refine sx_goI (va_runV (C := "java/lang/String") (As := []) (rest := []) ⟨hx, hb, hml, hown, hts⟩ (sx_latin hk16) (cwV 0 hts (am_GoodIn (fun w hw => by
    simp only [wsV, List.mem_append, List.mem_cons, List.not_mem_nil, or_false] at hw
    rcases hw with (rfl | rfl | rfl | rfl) | rfl | hw
    · decide +kernel
    · decide +kernel
    · decide +kernel
    · decide +kernel
    · exact List.mem_filter.mpr ⟨List.mem_of_getElem? (i := 831) (by decide +kernel), (by first | rfl | simp [goodWord, Cond.onTables, Cond.keeps, Cond.steady])⟩
    · exact hw)) rfl rfl rfl ⟨rfl, by decide +kernel, by decide +kernel, by decide +kernel⟩ ⟨Nat.le_of_ble_eq_true rfl, Nat.le_of_ble_eq_true rfl⟩) ⟨sx_blind, (by obtain ⟨cell, h1, h2, h3, h4⟩ := (hcst.2.2.2.2.2.2.1 k hk16).kept hk; exact ⟨cell, h1, h2, h3⟩), fun U hU hW => ⟨rfl, sx_pre (args := #[]) hq hcst U hU hW⟩⟩ rfl rfl hl.1 rfl (lv_room (Nat.le_of_ble_eq_true rfl)) sx_ca_1 ⟨Nat.zero_le _, Nat.zero_le _⟩) ?_
  refine lv_if_eq (tgt := 16) hx hb sx_ca_4 (by decide) (fun q => absurd q (by decide)) (fun _ => ?_)
  refine lv_aload_n hx hb sx_ca_7 rfl (lv_at hl 0 rfl) ?_
  refine vk_getf hx hb (ht1.kept hk) hS hown (hts ((Cond.fieldLink "java/lang/String" 9 "java/lang/String" "value" "[B")) (by decide +kernel)) (fun _ h => h) sx_ca_8 ?_
  refine lv_iload_n hx hb sx_ca_11 rfl (lv_at hl 1 rfl) ?_
  refine sx_goI (va_runS (As := [.ref t0, .int x]) (rest := []) ⟨hx, hb, hml, hown, hts⟩ (sx_lc (t0 := t0) hk16 hin) (va_cwS 2 hts (am_GoodIn (fun w hw => by
    simp only [va_wsS, List.mem_append, List.mem_cons, List.not_mem_nil, or_false] at hw
    rcases hw with (rfl | rfl | rfl) | rfl | hw
    · decide +kernel
    · decide +kernel
    · decide +kernel
    · exact List.mem_filter.mpr ⟨List.mem_of_getElem? (i := 834) (by decide +kernel), (by first | rfl | simp [goodWord, Cond.onTables, Cond.keeps, Cond.steady])⟩
    · exact hw)) rfl rfl rfl ⟨by decide +kernel, by decide +kernel, by decide +kernel⟩ ⟨Nat.le_of_ble_eq_true rfl, Nat.le_of_ble_eq_true rfl⟩) ⟨fun a U g mk q => ⟨q.1, ⟨q.2.1.1, am_cst_same (u := U) (U := U.calling g mk a) rfl q.2.1.2⟩, q.2.2.moved (u := U) (U := U.calling g mk a) (Vm.Alike.refl U.vm)⟩, fun U hU hW => ⟨rfl, sx_pre (args := #[]) hq hcst U hU hW, ht2.moved hW.alike⟩⟩ rfl rfl hl.1 rfl (lv_room (Nat.le_of_ble_eq_true rfl)) sx_ca_12 ⟨Nat.zero_le _, Nat.zero_le _⟩) ?_
  have e : narrow .char (.int (am_sc k x.toNatClampNeg)) = .int (am_sc k x.toNatClampNeg) := by
    have hsl : am_sl k < 2 ^ 31 := by
      have : ∀ z ∈ List.range 16, am_sl z < 2 ^ 31 := by decide +kernel
      exact this k (List.mem_range.mpr hk16)
    obtain ⟨j, hj, rfl⟩ := vp_in_of hin hsl
    rw [nI_clamp (by omega)]
    have : ∀ z ∈ List.range 16, ∀ w ∈ List.range (am_sl z), narrow .char (.int (am_sc z w)) = .int (am_sc z w) := by decide +kernel
    exact this k (List.mem_range.mpr hk16) j (List.mem_range.mpr hj)
  exact W.zret (v := am_sc k x.toNatClampNeg) (ty := .char) hx hb hr e (fun t ht hW => ⟨rfl, ht⟩) (fun q h => by cases h) sx_ca_15
theorem sx_all : am_St l S0 b cs sc D cA :=
  ⟨⟨prog_14_method_54_code, 1, by decide, List.mem_of_getElem? (i := 817) (by decide +kernel), fun k hk => sx_len hk⟩, ⟨prog_14_method_56_code, 2, by decide, List.mem_of_getElem? (i := 827) (by decide +kernel), fun k x hk hin => sx_char hk hin⟩⟩
end SX
