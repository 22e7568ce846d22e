/-! every method's contract, by depth -/
theorem am_lgm {b : Nat} {sc : Nat → Nat} (as : List Value) : (lg_sl (as.map (am_rl b sc))).length = (lg_sl as).length := by
  induction as with
  | nil => rfl
  | cons v as ih =>
    have e1 : lg_sl (v :: as) = (if v.category = 2 then [Slot.val v, .second] else [.val v]) ++ lg_sl as := rfl
    have e2 : lg_sl ((v :: as).map (am_rl b sc)) = (if (am_rl b sc v).category = 2 then [Slot.val (am_rl b sc v), .second] else [.val (am_rl b sc v)]) ++ lg_sl (as.map (am_rl b sc)) := rfl
    rw [e1, e2, List.length_append, List.length_append, ih, am_rl_cat]
    split <;> rfl
theorem am_lvm {b : Nat} {sc : Nat → Nat} : ∀ (as : List Value) (i : Nat), lv_args i (as.map (am_rl b sc)) = am_lm b sc (lv_args i as)
  | [], _ => rfl
  | v :: as, i => by
    show (i, am_rl b sc v) :: lv_args (if (am_rl b sc v).category = 2 then i + 2 else i + 1) (as.map (am_rl b sc)) = (i, am_rl b sc v) :: am_lm b sc (lv_args (if v.category = 2 then i + 2 else i + 1) as)
    rw [am_rl_cat, am_lvm as]
theorem am_chk_all (y : Nat) (hy : y < 256) : am_chk y = true := by
  by_cases h0 : y < 16
  · exact am_rg am_chk_0 (by omega) (by omega)
  by_cases h16 : y < 32
  · exact am_rg am_chk_16 (by omega) (by omega)
  by_cases h32 : y < 48
  · exact am_rg am_chk_32 (by omega) (by omega)
  by_cases h48 : y < 64
  · exact am_rg am_chk_48 (by omega) (by omega)
  by_cases h64 : y < 80
  · exact am_rg am_chk_64 (by omega) (by omega)
  by_cases h80 : y < 96
  · exact am_rg am_chk_80 (by omega) (by omega)
  by_cases h96 : y < 112
  · exact am_rg am_chk_96 (by omega) (by omega)
  by_cases h112 : y < 128
  · exact am_rg am_chk_112 (by omega) (by omega)
  by_cases h128 : y < 144
  · exact am_rg am_chk_128 (by omega) (by omega)
  by_cases h144 : y < 160
  · exact am_rg am_chk_144 (by omega) (by omega)
  by_cases h160 : y < 176
  · exact am_rg am_chk_160 (by omega) (by omega)
  by_cases h176 : y < 192
  · exact am_rg am_chk_176 (by omega) (by omega)
  by_cases h192 : y < 208
  · exact am_rg am_chk_192 (by omega) (by omega)
  by_cases h208 : y < 224
  · exact am_rg am_chk_208 (by omega) (by omega)
  by_cases h224 : y < 240
  · exact am_rg am_chk_224 (by omega) (by omega)
  by_cases h240 : y < 256
  · exact am_rg am_chk_240 (by omega) (by omega)
  omega
set_option maxHeartbeats 4000000 in
theorem am_met {l : Launch} {S0 : State} {b : Nat} {cs : Nat → Nat × (Nat → Int32)} {sc : Nat → Nat} {D : va_G} {cA : Nat → ClassId} (hStr : am_St l S0 b cs sc D cA) : ∀ d, am_Mt l S0 b cs sc D cA d (am_call cs d)
  | 0 => fun _ _ _ _ _ _ _ h => h.elim
  | d + 1 => by
    intro y as M P hy hy2 hlg h
    have hMd := am_met hStr d
    obtain ⟨-, hwp⟩ := h
    have hY := am_Y_ok y hy
    simp only [am_Yok, Bool.or_eq_true, decide_eq_true_eq, Bool.and_eq_true] at hY
    have hY := hY.resolve_left (by omega)
    obtain ⟨⟨y2, y3, y4, y5, y6, y7⟩, y8⟩ := hY
    refine Met.ofW (cc := (am_ym y).1.2.1) (maxL := (am_ym y).1.2.2.1) (ret := (am_ym y).1.2.2.2) y5 rfl ?_
    intro p e s m args below meth c s₁ B hml hv
    obtain ⟨rfl, hP, hsz, hs, hq, hcst⟩ := hv
    have hx := B.exec
    have hb := B.bytes
    have hr := B.returns
    have hlocks := B.notSynchronized
    have hts0 := atoms_spec (ws := am_yw y) B.pre
    have hts : ∀ w ∈ am_W, w.before (as.map (am_rl b sc)).toArray s = true := fun w h => hts0 w (List.mem_cons_of_mem _ h)
    have hown : s.vm.findClass (am_cn (am_ym y).2.1.1) = some m.cls := by rw [← y3]; exact findClass_of_methodNamed B.named
    have hl := lv_entry (as.map (am_rl b sc)) (n := (am_ym y).1.2.2.1) (by rw [am_lgm]; exact hlg)
    rw [lg_entry_eq]
    generalize (lg_sl (as.map (am_rl b sc)) ++ List.replicate ((am_ym y).1.2.2.1 - (lg_sl (as.map (am_rl b sc))).length) Slot.unset).toArray = ls at hl ⊢
    rw [am_lvm] at hl
    have G : am_G p s m (as.map (am_rl b sc)).toArray c S0 b cs sc D cA M (am_ym y).1.2.1 (am_ym y).1.2.2.1 (am_ym y).2.1.1 := ⟨hx, hb, hml, hown, hts, hcst, hq, by omega⟩
    have hin : y < 10 → meth.name = "<init>" := by
      intro h10
      have hn := (name_of_methodNamed B.named B.method).1
      rw [hn]
      have : ∀ z ∈ List.range 10, (am_ym z).1.1.name = "<init>" := by decide +kernel
      exact this y (List.mem_range.mpr h10)
    have hend : am_ends (am_ym y).1.2.1 (am_rt y) (M.1 + (am_mc y).1, M.2.1 + (am_mc y).2) P (am_X p l e (headSpec (am_yw y) (am_rm (d + 1) y)).room s m (as.map (am_rl b sc)).toArray below meth c (MQ below (am_Q b sc D cA M (am_mc y) P) (as.map (am_rl b sc)).toArray s (am_mc y).1 (am_mc y).2 (am_A b)) b sc D cA M (am_ym y).1.2.2.1) := by
      have hrt : (am_ym y).2.1.2 = am_rt y := rfl
      refine ⟨fun pc lv M1 v hd h1 h2 h3 hp => ?_, fun pc lv M1 v hd h1 h2 h3 hp => ?_, fun pc lv M1 v hd h1 h2 h3 h4 hp => ?_, fun pc lv M1 hd h1 h2 h3 hp => ?_⟩
      · intro H locs cells slots ls hP1 hS1 hs1 hc hn hl1
        have hc : cells = (am_mc y).1 := by simp only at h2; omega
        have hn : slots = (am_mc y).2 := by simp only at h3; omega
        subst hc
        subst hn
        have hq1 : ∀ t : State, t.heap = H → s.WarmedH t.vm → am_Q b sc D cA M (am_mc y) P (as.map (am_rl b sc)).toArray s (.returned (some (.int v))) t := fun t ht hW => ⟨⟨some (.int v), M1, rfl, hp, h2, h3, hs1, by rw [ht]; exact hP1⟩, hS1.F ht⟩
        rcases h1 with h1 | ⟨h1, hv⟩
        · rw [hrt, h1] at y8
          simp only [decide_eq_true_eq] at y8
          exact W.iret (v := v) hx hb (hr.trans y8) hq1 hS1.2.2 hd
        · rw [hrt, h1] at y8
          simp only [decide_eq_true_eq] at y8
          exact W.zret (v := v) (ty := .boolean) hx hb (hr.trans y8) (by rcases hv with rfl | rfl <;> rfl) hq1 hS1.2.2 hd
      · intro H locs cells slots ls hP1 hS1 hs1 hc hn hl1
        have hc : cells = (am_mc y).1 := by simp only at h2; omega
        have hn : slots = (am_mc y).2 := by simp only at h3; omega
        subst hc
        subst hn
        rw [hrt, h1] at y8
        simp only [decide_eq_true_eq] at y8
        exact W.lret (v := v) hx hb (hr.trans y8) (fun t ht hW => ⟨⟨some (.long v), M1, rfl, hp, h2, h3, hs1, by rw [ht]; exact hP1⟩, hS1.F ht⟩) hS1.2.2 hd
      · intro H locs cells slots ls hP1 hS1 hs1 hc hn hl1
        have hc : cells = (am_mc y).1 := by simp only at h2; omega
        have hn : slots = (am_mc y).2 := by simp only at h3; omega
        subst hc
        subst hn
        rw [hrt, h1] at y8
        have hrt2 : ∃ rt, (am_ym y).1.2.2.2 = some rt ∧ ∃ n, rt = .object n := by
          simp only at y8
          split at y8
          · rename_i z hz; exact ⟨_, hz, _, rfl⟩
          · cases y8
        obtain ⟨rt, hr2, n, rfl⟩ := hrt2
        have hv : am_rl b sc v = .null ∨ ∃ a, am_rl b sc v = .ref a := by
          rcases h4 with ⟨z, rfl⟩ | ⟨z, rfl⟩
          · exact Or.inr ⟨_, rfl⟩
          · exact Or.inr ⟨_, rfl⟩
        exact W.aret (v := am_rl b sc v) hx hb (hr.trans hr2) (Or.inl ⟨n, rfl⟩) hv (fun t ht hW => ⟨⟨some v, M1, rfl, hp, h2, h3, hs1, by rw [ht]; exact hP1⟩, hS1.F ht⟩) hS1.2.2 hd
      · intro H locs cells slots ls hP1 hS1 hs1 hc hn hl1
        have hc : cells = (am_mc y).1 := by simp only at h2; omega
        have hn : slots = (am_mc y).2 := by simp only at h3; omega
        subst hc
        subst hn
        rw [hrt, h1] at y8
        simp only [decide_eq_true_eq] at y8
        exact W.vret hx hb (hr.trans y8) (fun t ht hW => ⟨⟨none, M1, rfl, hp, h2, h3, hs1, by rw [ht]; exact hP1⟩, hS1.F ht⟩) hS1.2.2 hd
    exact am_run (R := (headSpec (am_yw y) (am_rm (d + 1) y)).room) G hMd hStr (Nat.le_refl _) (Nat.le_refl _) (Nat.le_refl _) (Nat.le_refl _) (am_chk_all y hy) hin hend hwp s.heap [] 0 0 ls hP va_S.rf hs rfl rfl hl
