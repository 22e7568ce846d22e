/-! the abstract run is the machine's -/
section AMF
variable {p : Program} {l : Launch} {e : Env} {R : Room} {s : State} {m : MethodId} {args : Array Value} {below : List Frame} {meth : Method} {c : Code} {Q : State → Prop}
variable {S0 : State} {b : Nat} {cs : Nat → Nat × (Nat → Int32)} {sc : Nat → Nat} {D : va_G} {cA : Nat → ClassId} {M0 M : am_M} {cc : ByteArray} {nL o pc a : Nat} {lv : am_L} {st : List Value} {x y : Int32}
theorem am_any {α : Type} {L : List α} {f : α → Bool} (h : L.any f = true) : ∃ e ∈ L, f e = true := List.any_eq_true.mp h
/-- how a frame ends -/
def am_ends (cc : ByteArray) (rt : Nat) (lim : Nat × Nat) (P : am_T) (X : am_K) : Prop :=
  (∀ pc lv M v, decode cc pc = .ok (.ireturn, 1) → (rt = 1 ∨ rt = 2 ∧ (v = 0 ∨ v = 1)) → M.1 = lim.1 → M.2.1 = lim.2 → P (some (.int v)) M → X pc lv [.int v] M) ∧
  (∀ pc lv M v, decode cc pc = .ok (.lreturn, 1) → rt = 3 → M.1 = lim.1 → M.2.1 = lim.2 → P (some (.long v)) M → X pc lv [.long v] M) ∧
  (∀ pc lv M v, decode cc pc = .ok (.areturn, 1) → rt = 4 → M.1 = lim.1 → M.2.1 = lim.2 → ((∃ z, v = .ref z) ∨ ∃ z, v = .retAddr z) → P (some v) M → X pc lv [v] M) ∧
  ∀ pc lv M, decode cc pc = .ok (.return_, 1) → rt = 0 → M.1 = lim.1 → M.2.1 = lim.2 → P none M → X pc lv [] M
theorem am_fld {o ix ci k ty q z : Nat} (hts : ∀ w ∈ am_W, w.before args s = true) (he : (o, ix, ci, k, ty, q) ∈ am_FL) (hz : (ci * 64 + k) * 4 + ty = z) : z / 256 = ci ∧ z / 4 % 64 = k ∧ z % 4 = ty ∧ ci < 10 ∧ k < am_nf ci ∧ ty = am_fty ci k := by
  obtain ⟨-, h1, h2, h3, h4, h5⟩ := am_FLat hts he
  refine ⟨by omega, by omega, by omega, h1, h2, h4⟩
set_option maxHeartbeats 4000000 in
theorem am_sound {d rt : Nat} {C : am_C} {lim : Nat × Nat} {P : am_T} (G : am_G p s m args c S0 b cs sc D cA M0 cc nL o) (hC : am_Mt l S0 b cs sc D cA d C) (hStr : am_St l S0 b cs sc D cA) (hRf : d + 1 ≤ R.frames) (hRl : 64 * (d + 1) ≤ R.locals) (hl1 : lim.1 ≤ M0.1 + R.cells) (hl2 : lim.2 ≤ M0.2.1 + R.slots) (hend : am_ends cc rt lim P (am_X p l e R s m args below meth c Q b sc D cA M0 nL))
    {raw i : Instr} {len : Nat} (hd : decode cc pc = .ok (raw, len)) (hln : am_ln raw = 0 ∨ am_ln raw = len) (hr : am_rsv o pc nL raw i = true) (hput : ∀ ix z, raw = .putfield ix → i = .putfield z → (am_fin.getD (z / 256) []).getD (z / 4 % 64) true = false ∨ (meth.name = "<init>" ∧ z / 256 = o)) (h : am_stp d cs C rt lim P pc len i lv st M (am_X p l e R s m args below meth c Q b sc D cA M0 nL)) : (am_X p l e R s m args below meth c Q b sc D cA M0 nL) pc lv st M := by
  have hts := G.2.2.2.2.1
  cases raw <;> first | (exfalso; exact Bool.noConfusion hr) | skip
  case iconst n =>
    obtain rfl := hln.resolve_left (by simp [am_ln])
    obtain rfl := of_decide_eq_true hr
    exact am_i_iconst G hd h
  case lconst n =>
    obtain rfl := hln.resolve_left (by simp [am_ln])
    obtain rfl := of_decide_eq_true hr
    exact am_i_lconst G hd h
  case bipush n =>
    obtain rfl := hln.resolve_left (by simp [am_ln])
    cases i <;> first | (exfalso; exact Bool.noConfusion hr) | skip
    exact am_i_bipush G hd (of_decide_eq_true hr) h
  case sipush n =>
    obtain rfl := hln.resolve_left (by simp [am_ln])
    cases i <;> first | (exfalso; exact Bool.noConfusion hr) | skip
    exact am_i_sipush G hd (of_decide_eq_true hr) h
  case ldc ix =>
    obtain rfl := hln.resolve_left (by simp [am_ln])
    cases i <;> first | (exfalso; exact Bool.noConfusion hr) | skip
    case iconst v =>
      obtain ⟨⟨e1, e2, e3, e4⟩, he, hf⟩ := am_any hr
      simp only [Bool.and_eq_true, beq_iff_eq, decide_eq_true_eq] at hf
      obtain ⟨rfl, rfl, rfl⟩ := hf
      exact am_i_ldcI G hd he h
    case ldc k =>
      obtain ⟨⟨e1, e2, e3, e4⟩, he, hf⟩ := am_any hr
      simp only [Bool.and_eq_true, beq_iff_eq, decide_eq_true_eq] at hf
      obtain ⟨rfl, rfl, rfl⟩ := hf
      exact am_i_ldcS G hd he h
  case ldc_w ix =>
    obtain rfl := hln.resolve_left (by simp [am_ln])
    cases i <;> first | (exfalso; exact Bool.noConfusion hr) | skip
    case iconst v =>
      obtain ⟨⟨e1, e2, e3, e4⟩, he, hf⟩ := am_any hr
      simp only [Bool.and_eq_true, beq_iff_eq, decide_eq_true_eq] at hf
      obtain ⟨rfl, rfl, rfl⟩ := hf
      exact am_i_ldcwI G hd he h
    case ldc k =>
      obtain ⟨⟨e1, e2, e3, e4⟩, he, hf⟩ := am_any hr
      simp only [Bool.and_eq_true, beq_iff_eq, decide_eq_true_eq] at hf
      obtain ⟨rfl, rfl, rfl⟩ := hf
      exact am_i_ldcwS G hd he h
  case iload_n k =>
    obtain rfl := hln.resolve_left (by simp [am_ln])
    obtain rfl := of_decide_eq_true hr
    simp only [am_stp] at h
    split at h
    · rename_i z hz
      exact am_i_iload_n G hd hz h
    · exact h.elim
  case iload k =>
    obtain rfl := hln.resolve_left (by simp [am_ln])
    obtain rfl := of_decide_eq_true hr
    simp only [am_stp] at h
    split at h
    · rename_i z hz
      exact am_i_iload G hd hz h
    · exact h.elim
  case lload_n k =>
    obtain rfl := hln.resolve_left (by simp [am_ln])
    obtain rfl := of_decide_eq_true hr
    simp only [am_stp] at h
    split at h
    · rename_i z hz
      exact am_i_lload_n G hd hz h
    · exact h.elim
  case lload k =>
    obtain rfl := hln.resolve_left (by simp [am_ln])
    obtain rfl := of_decide_eq_true hr
    simp only [am_stp] at h
    split at h
    · rename_i z hz
      exact am_i_lload G hd hz h
    · exact h.elim
  case aload_n k =>
    obtain rfl := hln.resolve_left (by simp [am_ln])
    obtain rfl := of_decide_eq_true hr
    simp only [am_stp] at h
    split at h
    · rename_i z hz
      exact am_i_aload_n G hd hz h
    · rename_i z hz
      exact am_i_rload_n G hd hz h
    · exact h.elim
  case istore_n k =>
    obtain rfl := hln.resolve_left (by simp [am_ln])
    have hr := Bool.and_eq_true_iff.mp hr
    obtain rfl := of_decide_eq_true hr.1
    simp only [am_stp] at h
    split at h
    · exact am_i_istore_n G hd (of_decide_eq_true hr.2) h
    · exact h.elim
  case astore_n k =>
    obtain rfl := hln.resolve_left (by simp [am_ln])
    have hr := Bool.and_eq_true_iff.mp hr
    obtain rfl := of_decide_eq_true hr.1
    simp only [am_stp] at h
    split at h
    · exact am_i_astore_n G hd (of_decide_eq_true hr.2) h
    · exact am_i_rstore_n G hd (of_decide_eq_true hr.2) h
    · exact h.elim
  case aload k =>
    obtain rfl := hln.resolve_left (by simp [am_ln])
    obtain rfl := of_decide_eq_true hr
    simp only [am_stp] at h
    split at h
    · rename_i z hz
      exact am_i_aload G hd hz h
    · rename_i z hz
      exact am_i_rload G hd hz h
    · exact h.elim
  case istore k =>
    obtain rfl := hln.resolve_left (by simp [am_ln])
    have hr := Bool.and_eq_true_iff.mp hr
    obtain rfl := of_decide_eq_true hr.1
    simp only [am_stp] at h
    split at h
    · exact am_i_istore G hd (of_decide_eq_true hr.2) h
    · exact h.elim
  case astore k =>
    obtain rfl := hln.resolve_left (by simp [am_ln])
    have hr := Bool.and_eq_true_iff.mp hr
    obtain rfl := of_decide_eq_true hr.1
    simp only [am_stp] at h
    split at h
    · exact am_i_astore G hd (of_decide_eq_true hr.2) h
    · exact am_i_rstore G hd (of_decide_eq_true hr.2) h
    · exact h.elim
  case lstore_n k =>
    obtain rfl := hln.resolve_left (by simp [am_ln])
    have hr := Bool.and_eq_true_iff.mp hr
    obtain rfl := of_decide_eq_true hr.1
    simp only [am_stp] at h
    split at h
    · exact am_i_lstore_n G hd (of_decide_eq_true hr.2) h
    · exact h.elim
  case iinc k n =>
    obtain rfl := hln.resolve_left (by simp [am_ln])
    have hr := Bool.and_eq_true_iff.mp hr
    obtain rfl := of_decide_eq_true hr.1
    simp only [am_stp] at h
    split at h
    · rename_i z hz
      exact am_i_iinc G hd hz (of_decide_eq_true hr.2) h
    · exact h.elim
  case ifCond cd off =>
    obtain rfl := hln.resolve_left (by simp [am_ln])
    cases i <;> first | (exfalso; exact Bool.noConfusion hr) | skip
    simp only [am_rsv, Bool.and_eq_true, decide_eq_true_eq] at hr
    obtain ⟨rfl, r2, r3⟩ := hr
    simp only [am_stp] at h
    split at h
    · exact am_i_ifCond G hd r2 r3 h
    · exact h.elim
  case if_icmp cd off =>
    obtain rfl := hln.resolve_left (by simp [am_ln])
    cases i <;> first | (exfalso; exact Bool.noConfusion hr) | skip
    simp only [am_rsv, Bool.and_eq_true, decide_eq_true_eq] at hr
    obtain ⟨rfl, r2, r3⟩ := hr
    simp only [am_stp] at h
    split at h
    · exact am_i_if_icmp G hd r2 r3 h
    · exact h.elim
  case goto off =>
    obtain rfl := hln.resolve_left (by simp [am_ln])
    cases i <;> first | (exfalso; exact Bool.noConfusion hr) | skip
    simp only [am_rsv, Bool.and_eq_true, decide_eq_true_eq] at hr
    exact am_i_goto G hd hr.1 hr.2 h
  case tableswitch dd lo hi offs =>
    cases i <;> first | (exfalso; exact Bool.noConfusion hr) | skip
    simp only [am_rsv, Bool.and_eq_true, decide_eq_true_eq, List.all_eq_true] at hr
    obtain ⟨r1, r2, r3, r4, r5, r6, r7⟩ := hr
    simp only [am_stp] at h
    split at h
    · exact am_i_tableswitch G hd r1 r2 r3 r4 r5 r6 r7 h
    · exact h.elim
  case lookupswitch dd prs =>
    cases i <;> first | (exfalso; exact Bool.noConfusion hr) | skip
    simp only [am_rsv, Bool.and_eq_true, decide_eq_true_eq] at hr
    obtain ⟨r1, r2, r3, r4, r5⟩ := hr
    have r3 : ∀ z ∈ prs.toList, 0 ≤ (pc : Int) + z.2 ∧ -2147483648 ≤ z.1 ∧ z.1 < 2147483648 := by
      intro z hz
      have := List.all_eq_true.mp r3 z hz
      simp only [Bool.and_eq_true, decide_eq_true_eq] at this
      exact this
    simp only [am_stp] at h
    split at h
    · exact am_i_lookupswitch G hd r1 r2 r3 r4 r5 h
    · exact h.elim
  case iadd =>
    obtain rfl := hln.resolve_left (by simp [am_ln])
    obtain rfl := of_decide_eq_true hr
    simp only [am_stp] at h
    split at h
    · exact am_i_iadd G hd h
    · exact h.elim
  case isub =>
    obtain rfl := hln.resolve_left (by simp [am_ln])
    obtain rfl := of_decide_eq_true hr
    simp only [am_stp] at h
    split at h
    · exact am_i_isub G hd h
    · exact h.elim
  case imul =>
    obtain rfl := hln.resolve_left (by simp [am_ln])
    obtain rfl := of_decide_eq_true hr
    simp only [am_stp] at h
    split at h
    · exact am_i_imul G hd h
    · exact h.elim
  case iand =>
    obtain rfl := hln.resolve_left (by simp [am_ln])
    obtain rfl := of_decide_eq_true hr
    simp only [am_stp] at h
    split at h
    · exact am_i_iand G hd h
    · exact h.elim
  case ior =>
    obtain rfl := hln.resolve_left (by simp [am_ln])
    obtain rfl := of_decide_eq_true hr
    simp only [am_stp] at h
    split at h
    · exact am_i_ior G hd h
    · exact h.elim
  case ishl =>
    obtain rfl := hln.resolve_left (by simp [am_ln])
    obtain rfl := of_decide_eq_true hr
    simp only [am_stp] at h
    split at h
    · exact am_i_ishl G hd h
    · exact h.elim
  case ishr =>
    obtain rfl := hln.resolve_left (by simp [am_ln])
    obtain rfl := of_decide_eq_true hr
    simp only [am_stp] at h
    split at h
    · exact am_i_ishr G hd h
    · exact h.elim
  case iushr =>
    obtain rfl := hln.resolve_left (by simp [am_ln])
    obtain rfl := of_decide_eq_true hr
    simp only [am_stp] at h
    split at h
    · exact am_i_iushr G hd h
    · exact h.elim
  case i2l =>
    obtain rfl := hln.resolve_left (by simp [am_ln])
    obtain rfl := of_decide_eq_true hr
    simp only [am_stp] at h
    split at h
    · exact am_i_i2l G hd h
    · exact h.elim
  case i2b =>
    obtain rfl := hln.resolve_left (by simp [am_ln])
    obtain rfl := of_decide_eq_true hr
    simp only [am_stp] at h
    split at h
    · exact am_i_i2b G hd h
    · exact h.elim
  case i2s =>
    obtain rfl := hln.resolve_left (by simp [am_ln])
    obtain rfl := of_decide_eq_true hr
    simp only [am_stp] at h
    split at h
    · exact am_i_i2s G hd h
    · exact h.elim
  case ladd =>
    obtain rfl := hln.resolve_left (by simp [am_ln])
    obtain rfl := of_decide_eq_true hr
    simp only [am_stp] at h
    split at h
    · exact am_i_ladd G hd h
    · exact h.elim
  case lmul =>
    obtain rfl := hln.resolve_left (by simp [am_ln])
    obtain rfl := of_decide_eq_true hr
    simp only [am_stp] at h
    split at h
    · exact am_i_lmul G hd h
    · exact h.elim
  case lcmp =>
    obtain rfl := hln.resolve_left (by simp [am_ln])
    obtain rfl := of_decide_eq_true hr
    simp only [am_stp] at h
    split at h
    · exact am_i_lcmp G hd h
    · exact h.elim
  case dup2 =>
    obtain rfl := hln.resolve_left (by simp [am_ln])
    obtain rfl := of_decide_eq_true hr
    simp only [am_stp] at h
    split at h
    · exact am_i_dup2 G hd h
    · exact h.elim
  case irem =>
    obtain rfl := hln.resolve_left (by simp [am_ln])
    obtain rfl := of_decide_eq_true hr
    simp only [am_stp] at h
    split at h
    · exact am_i_irem G hd h.1 h.2
    · exact h.elim
  case dup =>
    obtain rfl := hln.resolve_left (by simp [am_ln])
    obtain rfl := of_decide_eq_true hr
    simp only [am_stp] at h
    split at h
    · exact am_i_dup_i G hd h
    · exact am_i_dup_a G hd h
    · exact h.elim
  case getfield ix =>
    obtain rfl := hln.resolve_left (by simp [am_ln])
    cases i <;> first | (exfalso; exact Bool.noConfusion hr) | skip
    rename_i z
    obtain ⟨⟨e1, e2, ci, k, ty, q⟩, he, hf⟩ := am_any hr
    simp only [Bool.and_eq_true, beq_iff_eq] at hf
    obtain ⟨rfl, rfl, hz⟩ := hf
    obtain ⟨z1, z2, z3, z4, z5, z6⟩ := am_fld hts he hz
    simp only [am_stp] at h
    split at h
    · obtain ⟨h1, h2⟩ := h
      rw [z1] at h1
      rw [z2, z3] at h2
      by_cases h3 : ty = 2
      · rw [if_pos h3] at h2
        obtain ⟨w, hw, hk⟩ := h2
        exact am_i_getfield G hd he h1 (by rw [am_fv, if_pos (by omega), hw]) hk
      · rw [if_neg h3] at h2
        exact am_i_getfield (v := .int _) G hd he h1 (by rw [am_fv, if_neg (by omega)]; rfl) h2
    · exact h.elim
  case putfield ix =>
    obtain rfl := hln.resolve_left (by simp [am_ln])
    cases i <;> first | (exfalso; exact Bool.noConfusion hr) | skip
    rename_i z
    have hpf := hput ix z rfl rfl
    clear hput
    obtain ⟨⟨e1, e2, ci, k, ty, q⟩, he, hf⟩ := am_any hr
    simp only [Bool.and_eq_true, beq_iff_eq] at hf
    obtain ⟨rfl, rfl, hz⟩ := hf
    obtain ⟨z1, z2, z3, z4, z5, z6⟩ := am_fld hts he hz
    obtain ⟨f1, f2, f3, f4, f5, f6⟩ := am_ftok z4 z5
    rw [z1, z2, f2] at hpf
    have hput : (am_TF ci k).2.2.2 = false ∨ (meth.name = "<init>" ∧ am_cn ci = am_cn e1) := hpf.imp_right (fun q => ⟨q.1, by rw [q.2]⟩)
    simp only [am_stp] at h
    split at h
    · rename_i w a st
      obtain ⟨h1, h2⟩ := h
      rw [z1] at h1
      rw [z2, z3] at h2
      by_cases h3 : ty = 2
      · rw [if_pos h3] at h2; exact h2.elim
      · rw [if_neg h3] at h2
        have mv : ∀ j, am_fv b sc (am_si M a k w) a ci j = if j = k then am_rl b sc (.int w) else am_fv b sc M a ci j := by
          intro j
          by_cases hj : j = k
          · subst hj; rw [if_pos rfl, am_fv, if_neg (by omega)]; simp [am_si, am_rl]
          · rw [if_neg hj]; simp [am_fv, am_si, hj]
        by_cases h4 : ty = 1
        · rw [if_pos h4] at h2
          refine am_i_putfield (v := .int w) (M' := am_si M a k w) G hd he hput h1 ?_ ?_ rfl rfl rfl am_si_en mv h2.2
          · rw [f4 (by omega)]; rcases h2.1 with rfl | rfl <;> rfl
          · rw [f4 (by omega)]; rcases h2.1 with rfl | rfl <;> rfl
        · rw [if_neg h4] at h2
          refine am_i_putfield (v := .int w) (M' := am_si M a k w) G hd he hput h1 ?_ ?_ rfl rfl rfl am_si_en mv h2
          · rw [f3 (by omega)]; rfl
          · rw [f3 (by omega)]; rfl
    · rename_i w a st
      obtain ⟨h1, h2⟩ := h
      rw [z1] at h1
      rw [z2, z3] at h2
      by_cases h3 : ty = 2
      · rw [if_pos h3] at h2
        have mv : ∀ j, am_fv b sc (am_sr M a k (.ref w)) a ci j = if j = k then am_rl b sc (.ref w) else am_fv b sc M a ci j := by
          intro j
          by_cases hj : j = k
          · subst hj; rw [if_pos rfl, am_fv, if_pos (by omega)]; simp [am_sr, am_rl]
          · rw [if_neg hj]; simp [am_fv, am_sr, hj]
        refine am_i_putfield (v := .ref w) (M' := am_sr M a k (.ref w)) G hd he hput h1 ?_ ?_ rfl rfl rfl am_sr_en mv h2
        · rcases f5 (by omega) with ⟨z, hz⟩ | ⟨z, hz⟩ <;> rw [hz] <;> rfl
        · rcases f5 (by omega) with ⟨z, hz⟩ | ⟨z, hz⟩ <;> rw [hz] <;> rfl
      · rw [if_neg h3] at h2; exact h2.elim
    · exact h.elim
  case iaload =>
    obtain rfl := hln.resolve_left (by simp [am_ln])
    obtain rfl := of_decide_eq_true hr
    simp only [am_stp] at h
    split at h
    · exact am_i_iaload G hd h.1 h.2.1 h.2.2
    · exact am_i_caload G hd h.1 h.2.1 h.2.2.1 h.2.2.2
    · exact h.elim
  case baload =>
    obtain rfl := hln.resolve_left (by simp [am_ln])
    obtain rfl := of_decide_eq_true hr
    simp only [am_stp] at h
    split at h
    · exact am_i_baload G hd h.1 h.2.1 h.2.2
    · exact h.elim
  case iastore =>
    obtain rfl := hln.resolve_left (by simp [am_ln])
    obtain rfl := of_decide_eq_true hr
    simp only [am_stp] at h
    split at h
    · exact am_i_iastore G hd h.1 h.2.1 h.2.2
    · exact h.elim
  case bastore =>
    obtain rfl := hln.resolve_left (by simp [am_ln])
    obtain rfl := of_decide_eq_true hr
    simp only [am_stp] at h
    split at h
    · exact am_i_bastore G hd h.1 h.2.1 h.2.2
    · exact h.elim
  case aaload =>
    obtain rfl := hln.resolve_left (by simp [am_ln])
    obtain rfl := of_decide_eq_true hr
    simp only [am_stp] at h
    split at h
    · obtain ⟨h1, h2, h3, ⟨w, hw, hk⟩ | ⟨w, hw, hk⟩⟩ := h
      · exact am_i_aaload G hd h1 h2 h3 hw (Or.inl ⟨w, rfl⟩) hk
      · exact am_i_aaload G hd h1 h2 h3 hw (Or.inr ⟨w, rfl⟩) hk
    · exact h.elim
  case aastore =>
    obtain rfl := hln.resolve_left (by simp [am_ln])
    obtain rfl := of_decide_eq_true hr
    simp only [am_stp] at h
    split at h
    · rename_i w j a st
      obtain ⟨h1, h2, h3, h4, h5⟩ := h
      refine am_i_aastore (v := .ref w) (w := b + am_lo w) G hd h1 (by omega) h3 rfl rfl (fun H locs hP hS hs => ?_) h5
      have hel : am_el (M.2.2.1 a).1 < 10 := by unfold am_el; split <;> (try split) <;> omega
      have hlt : am_lo w < M.1 := am_lt hs (by omega)
      refine va_rAny G.2.2.2.2.2.1.1 hP ((am_ws_at hlt).trans (by rw [am_en_o (by omega), h4])) (am_cl_at _ hel) (fun comp c0 q1 q2 => ?_)
      have e1 : am_en4 (M.2.2.1 a).1 = am_cn (am_el (M.2.2.1 a).1) := by
        rcases (show (M.2.2.1 a).1 = 22 ∨ (M.2.2.1 a).1 = 23 ∨ (M.2.2.1 a).1 = 24 by omega) with q | q | q <;> rw [q] <;> rfl
      rw [e1] at q1
      have : comp = c0 := Option.some.inj (q1.symm.trans q2)
      subst this
      exact va_asg _ _
    · rename_i w j a st
      obtain ⟨h1, h3, h4, h5⟩ := h
      refine am_i_aastore (v := .retAddr w) (w := sc w) G hd (by omega) (by omega) h3 rfl rfl (fun H locs hP hS hs => ?_) h5
      obtain ⟨cell, g1, g2, g3⟩ := am_strrecv G h4 hS
      obtain ⟨kC, hkC, -⟩ := Vm.findClass_spec g3
      refine ⟨cell, g1, g2, ⟨kC, hkC⟩, fun comp q1 => ?_⟩
      have e1 : am_en4 (M.2.2.1 a).1 = "java/lang/String" := by rw [h1]; rfl
      rw [e1] at q1
      have : comp = cell.cls := Option.some.inj (q1.symm.trans g3)
      subst this
      exact va_asg _ _
    · exact h.elim
  case arraylength =>
    obtain rfl := hln.resolve_left (by simp [am_ln])
    obtain rfl := of_decide_eq_true hr
    simp only [am_stp] at h
    split at h
    · exact am_i_alen G hd h.1 h.2.1 h.2.2
    · obtain ⟨rfl, h⟩ := h
      exact am_i_clen G hd h
    · exact h.elim
  case getstatic ix =>
    obtain rfl := hln.resolve_left (by simp [am_ln])
    have hr := Bool.and_eq_true_iff.mp hr
    obtain rfl := of_decide_eq_true hr.1
    obtain ⟨⟨e1, e2, q⟩, he, hf⟩ := am_any hr.2
    simp only [Bool.and_eq_true, beq_iff_eq] at hf
    obtain ⟨rfl, rfl⟩ := hf
    exact am_i_getstatic G hd he h
  case new ix =>
    obtain rfl := hln.resolve_left (by simp [am_ln])
    cases i <;> first | (exfalso; exact Bool.noConfusion hr) | skip
    rename_i z
    obtain ⟨⟨e1, e2, ci, n, q1, q2, q3⟩, he, hf⟩ := am_any hr
    simp only [Bool.and_eq_true, beq_iff_eq] at hf
    obtain ⟨rfl, rfl, rfl⟩ := hf
    have hw := List.all_eq_true.mp am_NL_ok _ he
    simp only [Bool.and_eq_true, decide_eq_true_eq] at hw
    simp only [am_stp] at h
    rw [show (ci * 64 + n) % 64 = n by omega, show (ci * 64 + n) / 64 = ci by omega] at h
    exact am_i_new G hd he (by omega) (by omega) h.2.2
  case newarray t =>
    obtain rfl := hln.resolve_left (by simp [am_ln])
    simp only [am_rsv, Bool.and_eq_true, Bool.or_eq_true, decide_eq_true_eq] at hr
    obtain ⟨rfl, ht⟩ := hr
    simp only [am_stp] at h
    split at h
    · exact am_i_newarray G hd ht h.1 h.2.1 (by omega) (by omega) h.2.2.2.2
    · exact h.elim
  case anewarray ix =>
    obtain rfl := hln.resolve_left (by simp [am_ln])
    cases i <;> first | (exfalso; exact Bool.noConfusion hr) | skip
    rename_i z
    obtain ⟨⟨e1, e2, k, q1, q2⟩, he, hf⟩ := am_any hr
    simp only [Bool.and_eq_true, beq_iff_eq] at hf
    obtain ⟨rfl, rfl, rfl⟩ := hf
    simp only [am_stp] at h
    split at h
    · exact am_i_anewarray G hd he h.1 h.2.1 (by omega) (by omega) h.2.2.2.2
    · exact h.elim
  case invokevirtual ix =>
    obtain rfl := hln.resolve_left (by simp [am_ln])
    cases i <;> first | (exfalso; exact Bool.noConfusion hr) | skip
    case invokevirtual z =>
      obtain ⟨⟨e1, e2, y, kind, nest, k, q⟩, he, hf⟩ := am_any hr
      simp only [Bool.and_eq_true, beq_iff_eq] at hf
      obtain ⟨rfl, rfl, rfl, rfl, rfl⟩ := hf
      simp only [am_stp] at h
      obtain ⟨h1, h2, h3, h4, h5, h6, h7⟩ := h
      exact am_i_call G hC hRf hRl hd rfl he h1 h2 h3 h4 (by omega) (by omega) h7 (fun r M1 q => q)
    case invokespecial z =>
      obtain ⟨⟨e1, e2, k, q⟩, he, hf⟩ := am_any hr
      simp only [Bool.and_eq_true, beq_iff_eq, decide_eq_true_eq] at hf
      obtain ⟨rfl, rfl, rfl, hk2⟩ := hf
      simp only [am_stp] at h
      split at h
      · exact am_i_slen (by omega) (by omega) G hStr hRf hRl h.2.1 hd he h.1 h.2.2.1 h.2.2.2.2.2
      · exact am_i_schar (by omega) (by omega) G hStr hRf hRl h.2.1 hd he h.1 h.2.2.2.1 h.2.2.1 h.2.2.2.2.2.2
      · exact absurd hk2 (by decide)
      · exact absurd hk2 (by decide)
      · exact h.elim
  case invokestatic ix =>
    obtain rfl := hln.resolve_left (by simp [am_ln])
    cases i <;> first | (exfalso; exact Bool.noConfusion hr) | skip
    case invokevirtual z =>
      obtain ⟨⟨e1, e2, y, kind, nest, k, q⟩, he, hf⟩ := am_any hr
      simp only [Bool.and_eq_true, beq_iff_eq] at hf
      obtain ⟨rfl, rfl, rfl, rfl⟩ := hf
      simp only [am_stp] at h
      obtain ⟨h1, h2, h3, h4, h5, h6, h7⟩ := h
      exact am_i_call G hC hRf hRl hd rfl he h1 h2 h3 h4 (by omega) (by omega) h7 (fun r M1 q => q)
    case invokestatic z =>
      obtain ⟨⟨e1, e2, q⟩, he, hf⟩ := am_any hr
      simp only [Bool.and_eq_true, beq_iff_eq] at hf
      obtain ⟨rfl, rfl, rfl⟩ := hf
      simp only [am_stp] at h
      split at h
      · obtain ⟨h1, h2, h3, h4, h5, h6, h7, h8, h9⟩ := h
        exact am_i_copy G hd he h1 h2 h3 h4 h5 h6 h7 h8 (by omega) (by omega) h9
      · exact h.elim
    case invokespecial z =>
      obtain ⟨⟨e1, e2, k, q⟩, he, hf⟩ := am_any hr
      simp only [Bool.and_eq_true, beq_iff_eq, decide_eq_true_eq] at hf
      obtain ⟨rfl, rfl, rfl, hk2⟩ := hf
      simp only [am_stp] at h
      split at h
      · exact absurd hk2 (by decide)
      · exact absurd hk2 (by decide)
      · exact am_i_mmin G hd he h.1 (by omega) (by omega) (by omega) (by omega) h.2.2.2
      · exact am_i_mmax G hd he h.1 (by omega) (by omega) (by omega) (by omega) h.2.2.2
      · exact h.elim
  case invokespecial ix =>
    obtain rfl := hln.resolve_left (by simp [am_ln])
    cases i <;> first | (exfalso; exact Bool.noConfusion hr) | skip
    case invokevirtual z =>
      obtain ⟨⟨e1, e2, y, kind, nest, k, q⟩, he, hf⟩ := am_any hr
      simp only [Bool.and_eq_true, beq_iff_eq] at hf
      obtain ⟨rfl, rfl, rfl, rfl⟩ := hf
      simp only [am_stp] at h
      obtain ⟨h1, h2, h3, h4, h5, h6, h7⟩ := h
      exact am_i_call G hC hRf hRl hd rfl he h1 h2 h3 h4 (by omega) (by omega) h7 (fun r M1 q => q)
    case pop =>
      obtain ⟨⟨e1, e2, q⟩, he, hf⟩ := am_any hr
      simp only [Bool.and_eq_true, beq_iff_eq] at hf
      obtain ⟨rfl, rfl⟩ := hf
      simp only [am_stp] at h
      split at h
      · exact am_i_objInit G hd he h.1 (by omega) (by omega) h.2
      · exact h.elim
  case ireturn =>
    obtain rfl := hln.resolve_left (by simp [am_ln])
    obtain rfl := of_decide_eq_true hr
    simp only [am_stp] at h
    split at h
    · exact hend.1 _ _ _ _ hd h.1 h.2.1 h.2.2.1 h.2.2.2
    · exact h.elim
  case lreturn =>
    obtain rfl := hln.resolve_left (by simp [am_ln])
    obtain rfl := of_decide_eq_true hr
    simp only [am_stp] at h
    split at h
    · exact hend.2.1 _ _ _ _ hd h.1 h.2.1 h.2.2.1 h.2.2.2
    · exact h.elim
  case areturn =>
    obtain rfl := hln.resolve_left (by simp [am_ln])
    obtain rfl := of_decide_eq_true hr
    simp only [am_stp] at h
    split at h
    · exact hend.2.2.1 _ _ _ _ hd h.1 h.2.1 h.2.2.1 (Or.inl ⟨_, rfl⟩) h.2.2.2
    · exact hend.2.2.1 _ _ _ _ hd h.1 h.2.1 h.2.2.1 (Or.inr ⟨_, rfl⟩) h.2.2.2
    · exact h.elim
  case return_ =>
    obtain rfl := hln.resolve_left (by simp [am_ln])
    obtain rfl := of_decide_eq_true hr
    simp only [am_stp] at h
    split at h
    · exact hend.2.2.2 _ _ _ hd h.1 h.2.1 h.2.2.1 h.2.2.2
    · exact h.elim
/-- a frame's run -/
theorem am_run {d rt y0 : Nat} {C : am_C} {lim : Nat × Nat} {P : am_T} (G : am_G p s m args c S0 b cs sc D cA M0 (am_ym y0).1.2.1 (am_ym y0).1.2.2.1 (am_ym y0).2.1.1) (hC : am_Mt l S0 b cs sc D cA d C) (hStr : am_St l S0 b cs sc D cA) (hRf : d + 1 ≤ R.frames) (hRl : 64 * (d + 1) ≤ R.locals) (hl1 : lim.1 ≤ M0.1 + R.cells) (hl2 : lim.2 ≤ M0.2.1 + R.slots)
    (hchk : am_chk y0 = true) (hin : y0 < 10 → meth.name = "<init>") (hend : am_ends (am_ym y0).1.2.1 rt lim P (am_X p l e R s m args below meth c Q b sc D cA M0 (am_ym y0).1.2.2.1)) (h : am_wp d cs C y0 rt lim P pc lv st M) : (am_X p l e R s m args below meth c Q b sc D cA M0 (am_ym y0).1.2.2.1) pc lv st M := by
  refine h _ (fun pc lv st M len i hi hs => ?_)
  have h1 := List.all_eq_true.mp hchk _ hi
  unfold am_ce at h1
  cases hd : decode (am_ym y0).1.2.1 pc with
  | error z => rw [hd] at h1; cases h1
  | ok z =>
    obtain ⟨raw, n⟩ := z
    rw [hd] at h1
    simp only [Bool.and_eq_true, Bool.or_eq_true, beq_iff_eq] at h1
    obtain ⟨⟨rfl, h2⟩, h3, h4⟩ := h1
    refine am_sound G hC hStr hRf hRl hl1 hl2 hend hd h2 h3 (fun ix z e1 e2 => ?_) hs
    subst e1
    subst e2
    simp only [Bool.or_eq_true, Bool.and_eq_true, Bool.not_eq_true', beq_iff_eq, decide_eq_true_eq] at h4
    exact h4.imp_right (fun q => ⟨hin q.2, q.1⟩)
end AMF
