/-! layer 2: the whole state -/
section Rel
variable {d : Nat} {cs : Nat → Nat × (Nat → Int32)} {f f' : Nat → Nat → Int32} {P : am_T} {c : Nat} {N : Nat → Int32}
def cntW (N : Nat → Int32) : Nat → Nat
  | 0 => 0
  | n + 1 => cntW N n + if N (48 + 30 * n + 3) = 2 then 1 else 0
/-- a gift that is: what else always holds -/
def IX (N : Nat → Int32) (b g : Nat) : Prop := vp_in (N (48 + 30 * g + 1)) 100 ∧ (N (48 + 30 * g + 3) = 2 ∧ N (48 + 30 * g + 5) = 0 ∧ N (48 + 30 * g + 2) = -1 ∧ (∃ j, j < b ∧ N (48 + 30 * g + 4) = Int32.ofNat j) ∨ ¬ N (48 + 30 * g + 3) = 2 ∧ N (48 + 30 * g + 4) = -1)
def RC (f : Nat → Nat → Int32) (c : Nat) (N : Nat → Int32) : Prop := IE N ∧ REN f c N ∧ f c 7 = N 0 ∧ f c 8 = N 5 ∧ (∀ i, i < 10 → f (c + 3) i = N (6 + i) ∧ (N (6 + i) = -1 ∨ okP N (N (6 + i)))) ∧ ∃ b BB rk, WB N b BB rk ∧ ∀ g, g < b → rk g ≤ cntW N b ∧ RGN f (c + 12 + 3 * g) N (Int32.ofNat g) (BB g) ∧ IG N g ∧ IX N b g
def RF (f : Nat → Nat → Int32) : Prop := (∀ k, k < 7 → f 95 k = f 108 (k + 1)) ∧ f 108 0 = f 95 0 + f 95 1 + f 95 2 + f 95 3 + f 95 4 + f 95 5 + f 95 6
def RT (f : Nat → Nat → Int32) : Prop := f 59 1 = f 104 11 ∧ vp_in (f 104 11) 121 ∧ ∀ i, i < ix (f 104 11) → f 60 i = (f 111 i).toInt8.toInt32 ∧ vp_in (f 111 i) 256
def RSh (f : Nat → Nat → Int32) : Prop := ∀ s, s < 4 → f (96 + 2 * s) 1 = f 114 s ∧ f (96 + 2 * s) 2 = f 115 s ∧ vp_in (f 115 s) 41 ∧ (f 114 s = 0 ∨ f 114 s = 8 ∨ f 114 s = 16 ∨ f 114 s = 32) ∧ (f 114 s = 0 → f 115 s = 0) ∧ ∀ i, i < 40 → f (97 + 2 * s) i = f 116 (40 * s + i)
def R (f : Nat → Nat → Int32) : Prop := RC f 1 (f 105) ∧ f 0 7 = f 104 3 ∧ (f 104 3 = 0 ∨ f 104 3 = 1 ∧ RC f 28 (f 106)) ∧ f 104 5 = -1 ∧ RF f ∧ RT f ∧ RSh f
/-- what may move without a trace: the walker, the draft's and the reference's scratch -/
def jk (f f' : Nat → Nat → Int32) : Prop := (∀ c, (c ≤ 54 ∨ c = 59 ∨ c = 60 ∨ 94 ≤ c ∧ c ≤ 103 ∨ c = 105 ∨ c = 106 ∨ c = 108 ∨ c = 111 ∨ 114 ≤ c ∧ c ≤ 116) → f' c = f c) ∧ f' 104 3 = f 104 3 ∧ f' 104 5 = f 104 5 ∧ f' 104 11 = f 104 11
theorem jk_rfl : jk f f := ⟨fun _ _ => rfl, rfl, rfl, rfl⟩
theorem jk_tr {f'' : Nat → Nat → Int32} (h : jk f f') (h' : jk f' f'') : jk f f'' := ⟨fun c hc => (h'.1 c hc).trans (h.1 c hc), h'.2.1.trans h.2.1, h'.2.2.1.trans h.2.2.1, h'.2.2.2.trans h.2.2.2⟩
theorem RC_fr (h : RC f c N) (fr : ∀ c', c ≤ c' → c' < c + 27 → f' c' = f c') : RC f' c N := by
  obtain ⟨h1, h2, h3, h4, h5, b, BB, rk, w, h6⟩ := h
  have hb := w.2.1
  refine ⟨h1, ?_, by rw [fr c (by omega) (by omega)]; exact h3, by rw [fr c (by omega) (by omega)]; exact h4, fun i hi => by rw [fr _ (by omega) (by omega)]; exact h5 i hi, b, BB, rk, w, fun g hg => ?_⟩
  · unfold REN at *
    rw [fr c (by omega) (by omega)]
    refine ⟨h2.1, h2.2.1, h2.2.2.1, h2.2.2.2.1, fun p hp k hk => ?_⟩
    rw [fr _ (by omega) (by omega)]
    exact h2.2.2.2.2 p hp k hk
  · obtain ⟨a1, a2, a3⟩ := h6 g hg
    refine ⟨a1, ?_, a3⟩
    unfold RGN at *
    rw [fr _ (by omega) (by omega), fr (c + 12 + 3 * g + 1) (by omega) (by omega), fr (c + 12 + 3 * g + 2) (by omega) (by omega)]
    exact a2
theorem R_jk (h : R f) (j : jk f f') : R f' := by
  obtain ⟨h1, h2, h3, h4, h5, h6, h7⟩ := h
  obtain ⟨j1, j2, j3, j4⟩ := j
  have k105 := j1 105 (by omega)
  have k106 := j1 106 (by omega)
  have k108 := j1 108 (by omega)
  have k95 := j1 95 (by omega)
  have k59 := j1 59 (by omega)
  have k60 := j1 60 (by omega)
  have k111 := j1 111 (by omega)
  refine ⟨?_, by rw [j1 0 (by omega), j2]; exact h2, ?_, by rw [j3]; exact h4, ?_, ?_, ?_⟩
  · rw [k105]
    exact RC_fr h1 (fun c' _ _ => j1 c' (by omega))
  · rw [j2, k106]
    exact h3.elim Or.inl (fun z => Or.inr ⟨z.1, RC_fr z.2 (fun c' _ _ => j1 c' (by omega))⟩)
  · unfold RF at *
    rw [k95, k108]
    exact h5
  · unfold RT at *
    rw [k59, k60, k111, j4]
    exact h6
  · intro s hs
    have q := h7 s hs
    rw [j1 (96 + 2 * s) (by omega), j1 (97 + 2 * s) (by omega), j1 114 (by omega), j1 115 (by omega), j1 116 (by omega)]
    exact q
theorem s_finding {k : Int32} (hk : vp_in (-1000001 - k) 7) (h : P (some (.int k)) (mk (u2 f 95 (ix (-1000001 - k)) (f 95 (ix (-1000001 - k)) + 1)))) : am_call cs (d + 2) 143 [.ref 0, .int k] (mk f) P := by
  have a1 := vp_in_iff.mp hk
  have l0 : (0 : Int32).toInt = 0 := rfl
  have l6 : (6 : Int32).toInt = 6 := rfl
  refine ⟨by decide, am_go_wp (y := 143) (l := am_k143) (fun e h => h) ?_⟩
  simp (maxSteps := 3000000) only [am_k143, rt_143, am_go_hit, am_go_cons, am_go_nil, st_iconst, st_lconst, st_iload, st_lload, st_aload, st_istore, st_lstore, st_astore, st_iinc, st_ifCond, st_if_icmp, st_goto, st_lookupswitch, st_iadd, st_isub, st_imul, st_irem, st_iand, st_ior, st_ishl, st_ishr, st_iushr, st_i2l, st_i2b, st_i2s, st_ladd, st_lmul, st_lcmp, st_dup, st_dup2, st_pop, st_getfield, st_putfield, st_iaload, st_baload, st_iastore, st_bastore, st_aaload, st_aastore, st_arraylength, st_new, st_newarray, st_anewarray, st_ldc, st_getstatic, st_invokevirtual, st_invokestatic, st_invokespecial, st_ireturn, st_lreturn, st_areturn, st_return_, br_eq, br_ne, br_lt, br_ge, br_gt, br_le, am_sw, am_lk, am_ls, am_ls2, am_in, am_fl, lv_args, Value.category, mk_si, mk_f, mk_s, mk_r, mk_1, mk_2, am_mc, List.take_succ_cons, List.take_zero, List.drop_succ_cons, List.drop_zero, List.reverse_cons, List.reverse_nil, List.nil_append, List.cons_append, List.append_nil, List.getLast?_cons_cons, List.getLast?_singleton, List.length_cons, List.length_nil, List.map_cons, List.map_nil, List.sum_cons, List.sum_nil, List.all_cons, List.all_nil, Option.toList_some, Option.toList_none, Option.some.injEq, Value.ref.injEq, Value.retAddr.injEq, exists_eq_left', beq_self_eq_true, Bool.and_true, Bool.and_self, if_true, if_false, ite_true, ite_false, true_and, and_true, true_or, or_true, false_or, or_false, reduceCtorEq, false_and, and_false, exists_false, not_false_eq_true, not_true_eq_false, eq_self, false_implies, true_implies, forall_const, imp_self, implies_true, Nat.le_refl, Nat.reduceAdd, Nat.reduceMul, Nat.reduceSub, Nat.reduceDiv, Nat.reduceMod, Nat.reduceLT, Nat.reduceBEq, Nat.reduceEqDiff, Nat.reduceBeqDiff, Nat.reduceLeDiff, Nat.reduceSubDiff, Int.reduceToNat, Int.reduceNeg, ↓reduceIte, Int32.reduceOfInt, Int32.reduceOfNat, Int32.reduceToNatClampNeg, Int32.reduceLT, Int32.reduceLE, i_10, i_01, i_m0, u2_at, Nat.left_eq_add, Nat.add_eq_left, Nat.add_left_cancel_iff, Nat.zero_le, Nat.zero_add, Nat.add_zero, k_s0, k_r0_0, k_r0_1, k_r0_2, k_r0_3, k_r0_4, k_r0_5, k_r0_6, k_s55, k_r55_0, k_r55_1, k_s94, k_s95, k_s59, k_r59_0, k_s60, k_s61, k_r61_0, k_r61_1, k_s89, k_r89_0, k_r89_1, k_r89_2, k_r89_3, k_s90, k_s91, k_s92, k_s93, k_s104, k_r104_0, k_r104_1, k_r104_2, k_r104_4, k_r104_6, k_r104_9, k_r104_10, k_r104_17, k_r104_18, k_r104_22, k_r104_23, k_r104_24, k_r104_25, k_s105, k_s106, k_s107, k_s108, k_s109, k_s110, k_s111, k_s112, k_s113, k_s114, k_s115, k_s116, k_s117, v_198_0, v_198_1, v_198_2, v_198_3, v_198_4, v_198_5, v_198_6, v_198_7, v_198_8, v_198_9, v_198_10, v_198_11, v_198_12, v_198_13, v_198_14, v_198_15, v_8_0, v_8_1, v_8_2, v_8_3, v_8_4, v_8_5, v_8_6, v_8_7, v_7_0, v_7_1, v_7_2, v_7_3, v_7_4, v_7_5, v_7_6, v_4_0, v_4_1, v_4_2, v_4_3, v_5_0, v_5_1, v_5_2, v_5_3, v_5_4, v_30_0, v_30_1, v_30_2, v_30_3, v_30_4, v_30_5, v_30_6, v_30_7, v_30_8, v_30_9, v_30_10, v_30_11, v_30_12, v_30_13, v_30_14, v_30_15, v_30_16, v_30_17, v_30_18, v_30_19, v_30_20, v_30_21, v_30_22, v_30_23, v_30_24, v_30_25, v_30_26, v_30_27, v_30_28, v_30_29, v_12_0, v_12_1, v_12_2, v_12_3, v_12_4, v_12_5, v_12_6, v_12_7, v_12_8, v_12_9, v_12_10, v_12_11, ix_0, ix_1, ix_2, ix_3, ix_4, ix_5, ix_6, ix_7, ix_8, ix_9, ix_10, ix_11, ix_12, ix_13, ix_14, ix_15, ix_16, ix_17, ix_18, ix_19, ix_20, ix_21, ix_22, ix_23, ix_24, ix_25, ix_26, ix_27, ix_28, ix_29, ix_30, k_s1, k_r1_0, k_r1_1, k_r1_2, k_s2, k_s3, k_s4, k_s28, k_r28_0, k_r28_1, k_r28_2, k_s29, k_s30, k_s31, k_s62, k_r62_0, k_r62_1, k_r62_2, k_s63, k_s64, k_s65, k_s56, k_r56_0, k_r56_1, k_s57, k_s58]
  refine s_isWithin (fun e1 e2 => ?_) (fun e1 => ?_)
  · simp (maxSteps := 3000000) only [am_go_hit, am_go_cons, am_go_nil, st_iconst, st_lconst, st_iload, st_lload, st_aload, st_istore, st_lstore, st_astore, st_iinc, st_ifCond, st_if_icmp, st_goto, st_lookupswitch, st_iadd, st_isub, st_imul, st_irem, st_iand, st_ior, st_ishl, st_ishr, st_iushr, st_i2l, st_i2b, st_i2s, st_ladd, st_lmul, st_lcmp, st_dup, st_dup2, st_pop, st_getfield, st_putfield, st_iaload, st_baload, st_iastore, st_bastore, st_aaload, st_aastore, st_arraylength, st_new, st_newarray, st_anewarray, st_ldc, st_getstatic, st_invokevirtual, st_invokestatic, st_invokespecial, st_ireturn, st_lreturn, st_areturn, st_return_, br_eq, br_ne, br_lt, br_ge, br_gt, br_le, am_sw, am_lk, am_ls, am_ls2, am_in, am_fl, lv_args, Value.category, mk_si, mk_f, mk_s, mk_r, mk_1, mk_2, am_mc, List.take_succ_cons, List.take_zero, List.drop_succ_cons, List.drop_zero, List.reverse_cons, List.reverse_nil, List.nil_append, List.cons_append, List.append_nil, List.getLast?_cons_cons, List.getLast?_singleton, List.length_cons, List.length_nil, List.map_cons, List.map_nil, List.sum_cons, List.sum_nil, List.all_cons, List.all_nil, Option.toList_some, Option.toList_none, Option.some.injEq, Value.ref.injEq, Value.retAddr.injEq, exists_eq_left', beq_self_eq_true, Bool.and_true, Bool.and_self, if_true, if_false, ite_true, ite_false, true_and, and_true, true_or, or_true, false_or, or_false, reduceCtorEq, false_and, and_false, exists_false, not_false_eq_true, not_true_eq_false, eq_self, false_implies, true_implies, forall_const, imp_self, implies_true, Nat.le_refl, Nat.reduceAdd, Nat.reduceMul, Nat.reduceSub, Nat.reduceDiv, Nat.reduceMod, Nat.reduceLT, Nat.reduceBEq, Nat.reduceEqDiff, Nat.reduceBeqDiff, Nat.reduceLeDiff, Nat.reduceSubDiff, Int.reduceToNat, Int.reduceNeg, ↓reduceIte, Int32.reduceOfInt, Int32.reduceOfNat, Int32.reduceToNatClampNeg, Int32.reduceLT, Int32.reduceLE, i_10, i_01, i_m0, u2_at, Nat.left_eq_add, Nat.add_eq_left, Nat.add_left_cancel_iff, Nat.zero_le, Nat.zero_add, Nat.add_zero, k_s0, k_r0_0, k_r0_1, k_r0_2, k_r0_3, k_r0_4, k_r0_5, k_r0_6, k_s55, k_r55_0, k_r55_1, k_s94, k_s95, k_s59, k_r59_0, k_s60, k_s61, k_r61_0, k_r61_1, k_s89, k_r89_0, k_r89_1, k_r89_2, k_r89_3, k_s90, k_s91, k_s92, k_s93, k_s104, k_r104_0, k_r104_1, k_r104_2, k_r104_4, k_r104_6, k_r104_9, k_r104_10, k_r104_17, k_r104_18, k_r104_22, k_r104_23, k_r104_24, k_r104_25, k_s105, k_s106, k_s107, k_s108, k_s109, k_s110, k_s111, k_s112, k_s113, k_s114, k_s115, k_s116, k_s117, v_198_0, v_198_1, v_198_2, v_198_3, v_198_4, v_198_5, v_198_6, v_198_7, v_198_8, v_198_9, v_198_10, v_198_11, v_198_12, v_198_13, v_198_14, v_198_15, v_8_0, v_8_1, v_8_2, v_8_3, v_8_4, v_8_5, v_8_6, v_8_7, v_7_0, v_7_1, v_7_2, v_7_3, v_7_4, v_7_5, v_7_6, v_4_0, v_4_1, v_4_2, v_4_3, v_5_0, v_5_1, v_5_2, v_5_3, v_5_4, v_30_0, v_30_1, v_30_2, v_30_3, v_30_4, v_30_5, v_30_6, v_30_7, v_30_8, v_30_9, v_30_10, v_30_11, v_30_12, v_30_13, v_30_14, v_30_15, v_30_16, v_30_17, v_30_18, v_30_19, v_30_20, v_30_21, v_30_22, v_30_23, v_30_24, v_30_25, v_30_26, v_30_27, v_30_28, v_30_29, v_12_0, v_12_1, v_12_2, v_12_3, v_12_4, v_12_5, v_12_6, v_12_7, v_12_8, v_12_9, v_12_10, v_12_11, ix_0, ix_1, ix_2, ix_3, ix_4, ix_5, ix_6, ix_7, ix_8, ix_9, ix_10, ix_11, ix_12, ix_13, ix_14, ix_15, ix_16, ix_17, ix_18, ix_19, ix_20, ix_21, ix_22, ix_23, ix_24, ix_25, ix_26, ix_27, ix_28, ix_29, ix_30, k_s1, k_r1_0, k_r1_1, k_r1_2, k_s2, k_s3, k_s4, k_s28, k_r28_0, k_r28_1, k_r28_2, k_s29, k_s30, k_s31, k_s62, k_r62_0, k_r62_1, k_r62_2, k_s63, k_s64, k_s65, k_s56, k_r56_0, k_r56_1, k_s57, k_s58]
    exact ⟨hk, hk, h⟩
  · exfalso
    rcases e1 with e1 | e1
    · have := Int32.lt_iff_toInt_lt.mp e1
      omega
    · have := Int32.lt_iff_toInt_lt.mp e1
      omega
theorem r_finding {k : Int32} (hk : vp_in (-1000001 - k) 7) (h : P (some (.int k)) (mk (u2 (u2 f 108 (ix (-1000001 - k) + 1) (f 108 (ix (-1000001 - k) + 1) + 1)) 108 0 (f 108 0 + 1)))) : am_call cs (d + 2) 150 [.ref 104, .int k] (mk f) P := by
  have hs : ix (-1000001 - k + 1) = ix (-1000001 - k) + 1 := i_s (vp_in_iff.mpr (by have := vp_in_iff.mp hk; omega))
  have hv : vp_in (-1000001 - k + 1) 8 := by
    have a1 := vp_in_iff.mp hk
    have l1 : (1 : Int32).toInt = 1 := rfl
    refine vp_in_iff.mpr ?_
    rw [i_add (by rw [l1]; omega) (by rw [l1]; omega), l1]
    omega
  refine ⟨by decide, am_go_wp (y := 150) (l := am_k150) (fun e h => h) ?_⟩
  simp (maxSteps := 3000000) only [am_k150, rt_150, am_go_hit, am_go_cons, am_go_nil, st_iconst, st_lconst, st_iload, st_lload, st_aload, st_istore, st_lstore, st_astore, st_iinc, st_ifCond, st_if_icmp, st_goto, st_lookupswitch, st_iadd, st_isub, st_imul, st_irem, st_iand, st_ior, st_ishl, st_ishr, st_iushr, st_i2l, st_i2b, st_i2s, st_ladd, st_lmul, st_lcmp, st_dup, st_dup2, st_pop, st_getfield, st_putfield, st_iaload, st_baload, st_iastore, st_bastore, st_aaload, st_aastore, st_arraylength, st_new, st_newarray, st_anewarray, st_ldc, st_getstatic, st_invokevirtual, st_invokestatic, st_invokespecial, st_ireturn, st_lreturn, st_areturn, st_return_, br_eq, br_ne, br_lt, br_ge, br_gt, br_le, am_sw, am_lk, am_ls, am_ls2, am_in, am_fl, lv_args, Value.category, mk_si, mk_f, mk_s, mk_r, mk_1, mk_2, am_mc, List.take_succ_cons, List.take_zero, List.drop_succ_cons, List.drop_zero, List.reverse_cons, List.reverse_nil, List.nil_append, List.cons_append, List.append_nil, List.getLast?_cons_cons, List.getLast?_singleton, List.length_cons, List.length_nil, List.map_cons, List.map_nil, List.sum_cons, List.sum_nil, List.all_cons, List.all_nil, Option.toList_some, Option.toList_none, Option.some.injEq, Value.ref.injEq, Value.retAddr.injEq, exists_eq_left', beq_self_eq_true, Bool.and_true, Bool.and_self, if_true, if_false, ite_true, ite_false, true_and, and_true, true_or, or_true, false_or, or_false, reduceCtorEq, false_and, and_false, exists_false, not_false_eq_true, not_true_eq_false, eq_self, false_implies, true_implies, forall_const, imp_self, implies_true, Nat.le_refl, Nat.reduceAdd, Nat.reduceMul, Nat.reduceSub, Nat.reduceDiv, Nat.reduceMod, Nat.reduceLT, Nat.reduceBEq, Nat.reduceEqDiff, Nat.reduceBeqDiff, Nat.reduceLeDiff, Nat.reduceSubDiff, Int.reduceToNat, Int.reduceNeg, ↓reduceIte, Int32.reduceOfInt, Int32.reduceOfNat, Int32.reduceToNatClampNeg, Int32.reduceLT, Int32.reduceLE, i_10, i_01, i_m0, u2_at, Nat.left_eq_add, Nat.add_eq_left, Nat.add_left_cancel_iff, Nat.zero_le, Nat.zero_add, Nat.add_zero, k_s0, k_r0_0, k_r0_1, k_r0_2, k_r0_3, k_r0_4, k_r0_5, k_r0_6, k_s55, k_r55_0, k_r55_1, k_s94, k_s95, k_s59, k_r59_0, k_s60, k_s61, k_r61_0, k_r61_1, k_s89, k_r89_0, k_r89_1, k_r89_2, k_r89_3, k_s90, k_s91, k_s92, k_s93, k_s104, k_r104_0, k_r104_1, k_r104_2, k_r104_4, k_r104_6, k_r104_9, k_r104_10, k_r104_17, k_r104_18, k_r104_22, k_r104_23, k_r104_24, k_r104_25, k_s105, k_s106, k_s107, k_s108, k_s109, k_s110, k_s111, k_s112, k_s113, k_s114, k_s115, k_s116, k_s117, v_198_0, v_198_1, v_198_2, v_198_3, v_198_4, v_198_5, v_198_6, v_198_7, v_198_8, v_198_9, v_198_10, v_198_11, v_198_12, v_198_13, v_198_14, v_198_15, v_8_0, v_8_1, v_8_2, v_8_3, v_8_4, v_8_5, v_8_6, v_8_7, v_7_0, v_7_1, v_7_2, v_7_3, v_7_4, v_7_5, v_7_6, v_4_0, v_4_1, v_4_2, v_4_3, v_5_0, v_5_1, v_5_2, v_5_3, v_5_4, v_30_0, v_30_1, v_30_2, v_30_3, v_30_4, v_30_5, v_30_6, v_30_7, v_30_8, v_30_9, v_30_10, v_30_11, v_30_12, v_30_13, v_30_14, v_30_15, v_30_16, v_30_17, v_30_18, v_30_19, v_30_20, v_30_21, v_30_22, v_30_23, v_30_24, v_30_25, v_30_26, v_30_27, v_30_28, v_30_29, v_12_0, v_12_1, v_12_2, v_12_3, v_12_4, v_12_5, v_12_6, v_12_7, v_12_8, v_12_9, v_12_10, v_12_11, ix_0, ix_1, ix_2, ix_3, ix_4, ix_5, ix_6, ix_7, ix_8, ix_9, ix_10, ix_11, ix_12, ix_13, ix_14, ix_15, ix_16, ix_17, ix_18, ix_19, ix_20, ix_21, ix_22, ix_23, ix_24, ix_25, ix_26, ix_27, ix_28, ix_29, ix_30, k_s1, k_r1_0, k_r1_1, k_r1_2, k_s2, k_s3, k_s4, k_s28, k_r28_0, k_r28_1, k_r28_2, k_s29, k_s30, k_s31, k_s62, k_r62_0, k_r62_1, k_r62_2, k_s63, k_s64, k_s65, k_s56, k_r56_0, k_r56_1, k_s57, k_s58]
  refine ⟨hv, hv, ?_⟩
  rw [show (-1000001 - k + 1).toNatClampNeg = ix (-1000001 - k) + 1 from hs, if_neg (by omega)]
  exact h
/-- the class's finding, the reference's finding -/
def cF (f : Nat → Nat → Int32) (k : Int32) : Nat → Nat → Int32 := u2 f 95 (ix (-1000001 - k)) (f 95 (ix (-1000001 - k)) + 1)
def rF (f : Nat → Nat → Int32) (k : Int32) : Nat → Nat → Int32 := u2 (u2 f 108 (ix (-1000001 - k) + 1) (f 108 (ix (-1000001 - k) + 1) + 1)) 108 0 (f 108 0 + 1)
theorem seven {m : Nat} (h : m < 7) : m = 0 ∨ m = 1 ∨ m = 2 ∨ m = 3 ∨ m = 4 ∨ m = 5 ∨ m = 6 := by omega
theorem RF_find {k : Int32} (hk : vp_in (-1000001 - k) 7) (j1 : f' 95 = cF f k 95) (j2 : f' 108 = f 108) (h : RF f) : RF (rF f' k) := by
  have hm := vi_lt hk
  obtain ⟨h1, h2⟩ := h
  unfold rF
  unfold cF at j1
  generalize ix (-1000001 - k) = m at *
  constructor
  · intro i hi
    rw [u2_ne (by decide), u2_ne (by decide), u2_nk (by omega), j1]
    by_cases e : i = m
    · rw [e, u2_eq, u2_eq, j2, h1 m hm]
    · rw [u2_nk e, u2_nk (by omega), j2, h1 i hi]
  · rw [u2_eq, u2_ne (by decide), u2_ne (by decide), j1, j2, h2]
    rcases seven hm with e | e | e | e | e | e | e <;> subst e <;> simp only [u2_at, Nat.reduceEqDiff, and_true, true_and, and_false, if_true, if_false] <;> ac_rfl
theorem R_find {k : Int32} (hk : vp_in (-1000001 - k) 7) (h : R f) (j : jk (cF f k) f') : R (rF f' k) := by
  obtain ⟨h1, h2, h3, h4, h5, h6, h7⟩ := h
  obtain ⟨j1, j2, j3, j4⟩ := j
  have cc : ∀ c, ¬ c = 95 → cF f k c = f c := fun c hc => u2_ne hc
  have rr : ∀ c, ¬ c = 108 → rF f' k c = f' c := fun c hc => by unfold rF; rw [u2_ne hc, u2_ne hc]
  have g : ∀ c, (c ≤ 54 ∨ c = 59 ∨ c = 60 ∨ 94 ≤ c ∧ c ≤ 103 ∨ c = 105 ∨ c = 106 ∨ c = 108 ∨ c = 111 ∨ 114 ≤ c ∧ c ≤ 116) → ¬ c = 95 → ¬ c = 108 → rF f' k c = f c := fun c hc h95 h108 => by rw [rr c h108, j1 c hc, cc c h95]
  have k104 : ∀ i, rF f' k 104 i = f' 104 i := fun i => by rw [rr 104 (by decide)]
  rw [cc 104 (by decide)] at j2 j3 j4
  refine ⟨?_, by rw [g 0 (by omega) (by omega) (by omega), k104, j2]; exact h2, ?_, by rw [k104, j3]; exact h4, ?_, ?_, ?_⟩
  · rw [g 105 (by omega) (by omega) (by omega)]
    exact RC_fr h1 (fun c' _ _ => g c' (by omega) (by omega) (by omega))
  · rw [k104, j2, g 106 (by omega) (by omega) (by omega)]
    exact h3.elim Or.inl (fun z => Or.inr ⟨z.1, RC_fr z.2 (fun c' _ _ => g c' (by omega) (by omega) (by omega))⟩)
  · exact RF_find hk (by rw [j1 95 (by omega)]) (by rw [j1 108 (by omega), cc 108 (by decide)]) h5
  · unfold RT at *
    rw [g 59 (by omega) (by omega) (by omega), g 60 (by omega) (by omega) (by omega), g 111 (by omega) (by omega) (by omega), k104, j4]
    exact h6
  · intro s hs
    have q := h7 s hs
    rw [g (96 + 2 * s) (by omega) (by omega) (by omega), g (97 + 2 * s) (by omega) (by omega) (by omega), g 114 (by omega) (by omega) (by omega), g 115 (by omega) (by omega) (by omega), g 116 (by omega) (by omega) (by omega)]
    exact q
end Rel
