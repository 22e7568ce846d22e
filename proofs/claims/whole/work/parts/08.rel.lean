/-! the abstract memory in the heap: cell k lies at b + am_lo k; constants at sc -/
def am_rl (b : Nat) (sc : Nat → Nat) : Value → Value
  | .ref a => .ref (b + am_lo a)
  | .retAddr c => .ref (sc c)
  | v => v
def am_ro (b : Nat) (sc : Nat → Nat) : Value → Option Nat
  | .ref a => some (b + am_lo a)
  | .retAddr c => some (sc c)
  | _ => none
def am_A (b : Nat) : Nat → Prop := fun q => b ≤ q
def am_tys (cA : Nat → ClassId) : List (ClassId × FieldType) := [(cA 20, .int), (cA 21, .byte), (cA 22, .object RX3), (cA 23, .object RX1), (cA 24, .object RX4), (cA 25, .object "java/lang/String")]
def am_fv (b : Nat) (sc : Nat → Nat) (M : am_M) (c ci k : Nat) : Value := if am_fty ci k = 2 then am_rl b sc (M.2.2.2.2 c k) else .int (M.2.2.2.1 c k)
def am_en (b : Nat) (sc : Nat → Nat) (cA : Nat → ClassId) (M : am_M) (c : Nat) : va_E :=
  if (M.2.2.1 c).1 < 20 then .inr ((M.2.2.1 c).1, (List.range (am_nf (M.2.2.1 c).1)).map (am_fv b sc M c (M.2.2.1 c).1))
  else if (M.2.2.1 c).1 < 22 then .inl (cA (M.2.2.1 c).1, (M.2.2.1 c).2, .inl (M.2.2.2.1 c))
  else .inl (cA (M.2.2.1 c).1, (M.2.2.1 c).2, .inr (.inr (.inr (.inr (fun j => am_ro b sc (M.2.2.2.2 c j))))))
def am_ws (b : Nat) (sc : Nat → Nat) (cA : Nat → ClassId) (M : am_M) : va_W := (List.range M.1).map (fun n => (b + n, am_en b sc cA M (am_nx n)))
/-- every cell has a kind; what isn't made yet has none -/
def am_sh (M : am_M) : Prop := (∀ c, M.1 ≤ am_lo c → (M.2.2.1 c).1 = 99) ∧ ∀ c, am_lo c < M.1 → (M.2.2.1 c).1 < 10 ∨ (20 ≤ (M.2.2.1 c).1 ∧ (M.2.2.1 c).1 ≤ 25)
/-- what is known of the String constants -/
def am_ks (S0 : State) (b : Nat) (sc : Nat → Nat) (U : State) : Prop :=
  (∀ c, c < 16 → va_OF "java/lang/String" "coder" "B" (.int 0) (sc c) (am_A b) U S0.heap ∧ ∃ t, va_OF "java/lang/String" "value" "[B" (.ref t) (sc c) (am_A b) U S0.heap ∧ va_T .byte t (am_sl c) (fun j => .int (am_sc c j)) (am_A b) U S0.heap) ∧
  va_Z "java/lang/String" "COMPACT_STRINGS" "Z" (.int 1) (am_A b) U S0.heap ∧ va_Zq "jdk/internal/util/Preconditions" "SIOOBE_FORMATTER" "Ljava/util/function/BiFunction;" (am_A b) U S0.heap
def am_cst (S0 : State) (b : Nat) (cs : Nat → Nat × (Nat → Int32)) (sc : Nat → Nat) (D : va_G) (cA : Nat → ClassId) (U : State) : Prop :=
  va_K D am_cl (am_tys cA) U ∧ va_Z RX8 "KIND_ABOVE" "[I" (.ref (sc 16)) (am_A b) U S0.heap ∧ va_T .int (sc 16) (cs 16).1 (fun j => .int ((cs 16).2 j)) (am_A b) U S0.heap ∧
  va_X (sc 17) (cs 17).1 (cs 17).2 U S0.heap ∧ sc 17 < b ∧ (∀ e ∈ am_SC, vk_R (am_cn e.1) e.2.1 (am_tx.getD e.2.2.1 "") (sc e.2.2.1) U) ∧ (∀ c, c < 16 → va_O "java/lang/String" (sc c) (am_A b) U S0.heap) ∧
  (∀ e ∈ am_ML, e.2.2.2.2.1 = 1 → va_Nw (.methodLinkNest (am_cn e.1) e.2.1 (am_ym e.2.2.1).1.1 RX8) U) ∧ (∀ e ∈ am_ST, va_Nw (.fieldLinkNest (am_cn e.1) e.2.1 RX8 "KIND_ABOVE" "[I" RX8) U) ∧ (∀ e ∈ am_AL, va_AO (am_en4 e.2.2.1) U) ∧ am_ks S0 b sc U
theorem am_cst_moved {S0 : State} {b : Nat} {cs : Nat → Nat × (Nat → Int32)} {sc : Nat → Nat} {D : va_G} {cA : Nat → ClassId} {u U : State} (hW : u.WarmedH U.vm) (h : am_cst S0 b cs sc D cA u) : am_cst S0 b cs sc D cA U := by
  obtain ⟨h1, h2, h3, h4, h5, h6, h7, h8, h9, h10, h11, h12, h13⟩ := h
  exact ⟨h1.moved hW.alike, h2.moved hW.alike, h3.moved hW.alike, h4.moved hW.alike, h5, fun e he => (h6 e he).warm hW, fun c hc => (h7 c hc).moved hW.alike, fun e he hn => (h8 e he hn).warmM hW, fun e he => (h9 e he).warmF hW, fun e he => (h10 e he).moved hW.alike, fun c hc => ⟨(h11 c hc).1.moved hW.alike, (h11 c hc).2.imp (fun t q => ⟨q.1.moved hW.alike, q.2.moved hW.alike⟩)⟩, h12.moved hW.alike, h13.moved hW.alike⟩
theorem am_cst_same {S0 : State} {b : Nat} {cs : Nat → Nat × (Nat → Int32)} {sc : Nat → Nat} {D : va_G} {cA : Nat → ClassId} {u U : State} (hv : U.vm = u.vm) (h : am_cst S0 b cs sc D cA u) : am_cst S0 b cs sc D cA U := by
  have ha : u.vm.Alike U.vm := by rw [hv]; exact Vm.Alike.refl _
  obtain ⟨h1, h2, h3, h4, h5, h6, h7, h8, h9, h10, h11, h12, h13⟩ := h
  exact ⟨h1.moved ha, h2.moved ha, h3.moved ha, h4.moved ha, h5, fun e he => (h6 e he).same hv, fun c hc => (h7 c hc).moved ha, fun e he hn => (h8 e he hn).same rfl hv.symm, fun e he => (h9 e he).same rfl hv.symm, fun e he => (h10 e he).moved ha, fun c hc => ⟨(h11 c hc).1.moved ha, (h11 c hc).2.imp (fun t q => ⟨q.1.moved ha, q.2.moved ha⟩)⟩, h12.moved ha, h13.moved ha⟩
section AMR
variable {b : Nat} {sc : Nat → Nat} {D : va_G} {cA : Nat → ClassId} {M M' : am_M} {H H1 : Heap} {c : Nat}
theorem am_ws_n {n : Nat} (h : n < M.1) : (am_ws b sc cA M)[n]? = some (b + n, am_en b sc cA M (am_nx n)) := by
  simp [am_ws, List.getElem?_map, List.getElem?_range h]
theorem am_ws_at (h : am_lo c < M.1) : (am_ws b sc cA M)[am_lo c]? = some (b + am_lo c, am_en b sc cA M c) := by
  rw [am_ws_n h, am_xl]
theorem am_ws_set (h1 : M'.1 = M.1) (ho : ∀ q, q ≠ c → am_en b sc cA M' q = am_en b sc cA M q) : (am_ws b sc cA M).set (am_lo c) (b + am_lo c, am_en b sc cA M' c) = am_ws b sc cA M' := by
  apply List.ext_getElem?
  intro k
  by_cases hk : k = am_lo c
  · subst hk
    by_cases hl : am_lo c < M.1
    · rw [List.getElem?_set_self (by simpa [am_ws] using hl), am_ws_at (by rw [h1]; exact hl)]
    · rw [List.getElem?_eq_none (by simp [am_ws]; omega), List.getElem?_eq_none (by simp [am_ws, h1]; omega)]
  · rw [List.getElem?_set_ne (Ne.symm hk)]
    by_cases hl : k < M.1
    · rw [am_ws_n hl, am_ws_n (by rw [h1]; exact hl), ho (am_nx k) (fun z => hk (by rw [← z, am_lx]))]
    · rw [List.getElem?_eq_none (by simp [am_ws]; omega), List.getElem?_eq_none (by simp [am_ws, h1]; omega)]
theorem am_ws_push {z : Nat × Nat} {n : Nat} (hq : ∀ q, am_lo q < M.1 → am_en b sc cA (am_nw M z n) q = am_en b sc cA M q) : am_ws b sc cA (am_nw M z n) = am_ws b sc cA M ++ [(b + am_lo (am_nx M.1), am_en b sc cA (am_nw M z n) (am_nx M.1))] := by
  have e : (am_nw M z n).1 = M.1 + 1 := rfl
  simp only [am_ws, e, List.range_succ, List.map_append, List.map_cons, List.map_nil, am_lx]
  congr 1
  exact List.map_congr_left (fun q hq' => by rw [hq (am_nx q) (by rw [am_lx]; exact List.mem_range.mp hq')])
theorem am_DD : va_D (am_A b) (am_ws b sc cA M) := by
  have key : ∀ (k : Nat) (q : Nat × va_E), (am_ws b sc cA M)[k]? = some q → q.1 = b + k := by
    intro k q hk
    have hl : k < M.1 := by
      have := (List.getElem?_eq_some_iff.mp hk).1
      simpa [am_ws] using this
    rw [am_ws_n hl] at hk
    cases hk
    rfl
  refine ⟨fun i j p q hi hj he => ?_, fun k q hk => ?_⟩
  · rw [key i p hi, key j q hj] at he
    omega
  · show b ≤ q.1
    rw [key k q hk]
    omega
theorem am_lt (hs : am_sh M) (h : (M.2.2.1 c).1 ≠ 99) : am_lo c < M.1 := by
  by_cases hl : am_lo c < M.1
  · exact hl
  · exact absurd (hs.1 c (by omega)) h
theorem am_en_o (h : (M.2.2.1 c).1 < 20) : am_en b sc cA M c = .inr ((M.2.2.1 c).1, (List.range (am_nf (M.2.2.1 c).1)).map (am_fv b sc M c (M.2.2.1 c).1)) := by
  rw [am_en, if_pos h]
theorem am_en_i {k : Nat} (h : (M.2.2.1 c).1 = k) (h1 : 20 ≤ k) (h2 : k < 22) : am_en b sc cA M c = .inl (cA k, (M.2.2.1 c).2, .inl (M.2.2.2.1 c)) := by
  rw [am_en, if_neg (by omega), if_pos (by omega), h]
theorem am_en_q {k : Nat} (h : (M.2.2.1 c).1 = k) (h1 : 22 ≤ k) : am_en b sc cA M c = .inl (cA k, (M.2.2.1 c).2, .inr (.inr (.inr (.inr (fun j => am_ro b sc (M.2.2.2.2 c j)))))) := by
  rw [am_en, if_neg (by omega), if_neg (by omega), h]
theorem am_sz (hP : va_P D am_cl (am_ws b sc cA M) H) (hb : b ≤ H.size) : b + M.1 ≤ H.size := by
  by_cases h0 : M.1 = 0
  · omega
  · have h := (hP (M.1 - 1) _ (am_ws_n (by omega))).lt
    have h : b + (M.1 - 1) < H.size := h
    omega
theorem am_si_en {k : Nat} {x : Int32} : ∀ q, q ≠ c → am_en b sc cA (am_si M c k x) q = am_en b sc cA M q := by
  intro q hq
  have e : (am_si M c k x).2.2.2.1 q = M.2.2.2.1 q := by funext j; simp [am_si, hq]
  have e2 : ∀ ci, am_fv b sc (am_si M c k x) q ci = am_fv b sc M q ci := by intro ci; funext j; simp only [am_fv, e]; rfl
  unfold am_en
  rw [e]
  simp only [e2]
  rfl
theorem am_sr_en {k : Nat} {x : Value} : ∀ q, q ≠ c → am_en b sc cA (am_sr M c k x) q = am_en b sc cA M q := by
  intro q hq
  have e : ∀ j, (am_sr M c k x).2.2.2.2 q j = M.2.2.2.2 q j := by intro j; simp [am_sr, hq]
  have e2 : ∀ ci, am_fv b sc (am_sr M c k x) q ci = am_fv b sc M q ci := by intro ci; funext j; simp only [am_fv, e]; rfl
  unfold am_en
  simp only [e, e2]
  rfl
theorem am_cp_en {a0 : Nat} {sp dp n : Int32} : ∀ q, q ≠ c → am_en b sc cA (am_cp M a0 c sp dp n) q = am_en b sc cA M q := by
  intro q hq
  have e : (am_cp M a0 c sp dp n).2.2.2.1 q = M.2.2.2.1 q := by funext j; simp [am_cp, hq]
  have e2 : ∀ ci, am_fv b sc (am_cp M a0 c sp dp n) q ci = am_fv b sc M q ci := by intro ci; funext j; simp only [am_fv, e]; rfl
  unfold am_en
  rw [e]
  simp only [e2]
  rfl
theorem am_nx_ne (h : am_lo c ≠ M.1) : ¬ c = am_nx M.1 := fun z => h (by rw [z, am_lx])
theorem am_nw_en {z : Nat × Nat} {n : Nat} : ∀ q, am_lo q < M.1 → am_en b sc cA (am_nw M z n) q = am_en b sc cA M q := by
  intro q hq
  have hn : ¬ q = am_nx M.1 := am_nx_ne (by omega)
  have e0 : (am_nw M z n).2.2.1 q = M.2.2.1 q := by simp [am_nw, hn]
  have e : (am_nw M z n).2.2.2.1 q = M.2.2.2.1 q := by funext j; simp [am_nw, hn]
  have e1 : ∀ j, (am_nw M z n).2.2.2.2 q j = M.2.2.2.2 q j := by intro j; simp [am_nw, hn]
  have e2 : ∀ ci, am_fv b sc (am_nw M z n) q ci = am_fv b sc M q ci := by intro ci; funext j; simp only [am_fv, e, e1]
  unfold am_en
  rw [e0, e]
  simp only [e1, e2]
theorem am_nw_sh {z : Nat × Nat} {n : Nat} (hs : am_sh M) (hz : z.1 < 10 ∨ (20 ≤ z.1 ∧ z.1 ≤ 25)) : am_sh (am_nw M z n) := by
  refine ⟨fun c hc => ?_, fun c hc => ?_⟩
  · have hc : M.1 + 1 ≤ am_lo c := hc
    show (if c = am_nx M.1 then z else M.2.2.1 c).1 = 99
    rw [if_neg (am_nx_ne (by omega))]
    exact hs.1 c (by omega)
  · have hc : am_lo c < M.1 + 1 := hc
    show (if c = am_nx M.1 then z else M.2.2.1 c).1 < 10 ∨ _
    by_cases h : c = am_nx M.1
    · simp only [am_nw, if_pos h]; exact hz
    · have h2 : am_lo c ≠ M.1 := fun z => h (by rw [← z, am_xl])
      simp only [am_nw, if_neg h]; exact hs.2 c (by omega)
end AMR
theorem am_lk_mem : ∀ {i : Nat} {v : Value} {l : am_L}, am_lk i l = some v → (i, v) ∈ l
  | _, _, [], h => by cases h
  | i, v, q :: l, h => by
    rw [am_lk] at h
    by_cases hq : q.1 = i
    · rw [if_pos hq] at h
      cases h
      exact List.mem_cons.mpr (Or.inl (by rw [← hq]))
    · rw [if_neg hq] at h
      exact List.mem_cons_of_mem _ (am_lk_mem h)
/-- the locals of the machine -/
def am_lm (b : Nat) (sc : Nat → Nat) (l : am_L) : am_L := l.map (fun q => (q.1, am_rl b sc q.2))
theorem am_rl_cat {b : Nat} {sc : Nat → Nat} (v : Value) : (am_rl b sc v).category = v.category := by cases v <;> rfl
theorem am_fl_mem {i : Nat} {q : Nat × Value} : ∀ {l : am_L}, q ∈ am_fl i l → q ∈ l ∧ q.1 ≠ i ∧ ¬ (q.1 + 1 = i ∧ q.2.category = 2)
  | [], h => by cases h
  | z :: l, h => by
    rw [am_fl] at h
    by_cases h1 : z.1 = i
    · rw [if_pos h1] at h
      exact ⟨List.mem_cons_of_mem _ (am_fl_mem h).1, (am_fl_mem h).2⟩
    · rw [if_neg h1] at h
      by_cases h2 : z.1 + 1 = i
      · rw [if_pos h2] at h
        by_cases h3 : z.2.category = 2
        · rw [if_pos h3] at h
          exact ⟨List.mem_cons_of_mem _ (am_fl_mem h).1, (am_fl_mem h).2⟩
        · rw [if_neg h3] at h
          rcases List.mem_cons.mp h with rfl | h
          · exact ⟨List.mem_cons_self, h1, fun q => h3 q.2⟩
          · exact ⟨List.mem_cons_of_mem _ (am_fl_mem h).1, (am_fl_mem h).2⟩
      · rw [if_neg h2] at h
        rcases List.mem_cons.mp h with rfl | h
        · exact ⟨List.mem_cons_self, h1, fun q => h2 q.1⟩
        · exact ⟨List.mem_cons_of_mem _ (am_fl_mem h).1, (am_fl_mem h).2⟩
theorem am_in_mem {i : Nat} {v : Value} {q : Nat × Value} : ∀ {l : am_L}, q ∈ am_in i v l → q = (i, v) ∨ q ∈ l
  | [], h => Or.inl (List.mem_singleton.mp h)
  | z :: l, h => by
    rw [am_in] at h
    by_cases h1 : i < z.1
    · rw [if_pos h1] at h
      exact List.mem_cons.mp h
    · rw [if_neg h1] at h
      rcases List.mem_cons.mp h with rfl | h
      · exact Or.inr List.mem_cons_self
      · exact (am_in_mem h).imp_right (List.mem_cons_of_mem _)
theorem am_has_ls {b : Nat} {sc : Nat → Nat} {ls : Array Slot} {nL i : Nat} {v : Value} {l : am_L} (h : lv_has ls nL ((i, am_rl b sc v) :: (am_lm b sc l).filter (fun q => !(q.1 == i) && !(q.1 + 1 == i && q.2.category == 2)))) : lv_has ls nL (am_lm b sc (am_ls i v l)) := by
  refine ⟨h.1, h.2.1, fun q hq => h.2.2 q ?_⟩
  obtain ⟨z, hz, rfl⟩ := List.mem_map.mp hq
  rcases am_in_mem hz with rfl | hz
  · exact List.mem_cons_self
  · obtain ⟨h1, h2, h3⟩ := am_fl_mem hz
    refine List.mem_cons_of_mem _ (List.mem_filter.mpr ⟨List.mem_map.mpr ⟨z, h1, rfl⟩, ?_⟩)
    simp only [am_rl_cat]
    have h3' : ¬ z.1 + 1 = i ∨ ¬ z.2.category = 2 := by
      by_cases hz : z.1 + 1 = i
      · exact Or.inr (fun q => h3 ⟨hz, q⟩)
      · exact Or.inl hz
    simpa [h2] using h3'
theorem am_has_ls2 {b : Nat} {sc : Nat → Nat} {ls : Array Slot} {nL i : Nat} {v : Value} {l : am_L} (h : lv_has ls nL ((i, am_rl b sc v) :: (am_lm b sc l).filter (fun q => !(q.1 == i) && (!(q.1 == i + 1) && !(q.1 + 1 == i && q.2.category == 2))))) : lv_has ls nL (am_lm b sc (am_ls2 i v l)) := by
  refine ⟨h.1, h.2.1, fun q hq => h.2.2 q ?_⟩
  obtain ⟨z, hz, rfl⟩ := List.mem_map.mp hq
  rcases am_in_mem hz with rfl | hz
  · exact List.mem_cons_self
  · obtain ⟨h1, h2, h3⟩ := am_fl_mem hz
    obtain ⟨h4, h5, -⟩ := am_fl_mem h1
    refine List.mem_cons_of_mem _ (List.mem_filter.mpr ⟨List.mem_map.mpr ⟨z, h4, rfl⟩, ?_⟩)
    simp only [am_rl_cat]
    have h3' : ¬ z.1 + 1 = i ∨ ¬ z.2.category = 2 := by
      by_cases hz : z.1 + 1 = i
      · exact Or.inr (fun q => h3 ⟨hz, q⟩)
      · exact Or.inl hz
    simpa [h2, h5] using h3'
theorem am_lm_at {b : Nat} {sc : Nat → Nat} {ls : Array Slot} {nL i : Nat} {v : Value} {l : am_L} (h : lv_has ls nL (am_lm b sc l)) (hi : am_lk i l = some v) : ls[i]? = some (.val (am_rl b sc v)) :=
  h.2.2 (i, am_rl b sc v) (List.mem_map.mpr ⟨(i, v), am_lk_mem hi, rfl⟩)
theorem am_sum {b : Nat} {sc : Nat → Nat} (st : List Value) : ((st.map (am_rl b sc)).map fun v => v.category).sum = (st.map fun v => v.category).sum := by
  rw [List.map_map]
  congr 1
  exact List.map_congr_left (fun v _ => am_rl_cat v)
