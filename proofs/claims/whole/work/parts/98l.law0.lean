/-! layer 3: what a call of both sides gives to the law -/
section Law0
variable {d : Nat} {cs : Nat → Nat × (Nat → Int32)} {f f' f1 f2 : Nat → Nat → Int32}
def am_rk (rt : Nat) (r : Option Value) : Prop := (rt = 1 ∨ rt = 2 → ∃ v, r = some (.int v)) ∧ (rt = 3 → ∃ v, r = some (.long v))
theorem am_stp_rk {C : am_C} {rt : Nat} {lim : Nat × Nat} {P : am_T} {pc len : Nat} {i : Instr} {lv : am_L} {st : List Value} {M : am_M} {K : am_K} (h : am_stp d cs C rt lim P pc len i lv st M K) : am_stp d cs C rt lim (fun r M => P r M ∧ am_rk rt r) pc len i lv st M K := by
  unfold am_stp at h ⊢
  cases i
  case ireturn =>
    dsimp only at h ⊢
    split at h
    · exact ⟨h.1, h.2.1, h.2.2.1, h.2.2.2, fun _ => ⟨_, rfl⟩, fun z => absurd h.1 (by omega)⟩
    · exact h.elim
  case lreturn =>
    dsimp only at h ⊢
    split at h
    · exact ⟨h.1, h.2.1, h.2.2.1, h.2.2.2, fun z => absurd h.1 (by omega), fun _ => ⟨_, rfl⟩⟩
    · exact h.elim
  case areturn =>
    dsimp only at h ⊢
    split at h
    · exact ⟨h.1, h.2.1, h.2.2.1, h.2.2.2, fun z => absurd h.1 (by omega), fun z => absurd h.1 (by omega)⟩
    · exact ⟨h.1, h.2.1, h.2.2.1, h.2.2.2, fun z => absurd h.1 (by omega), fun z => absurd h.1 (by omega)⟩
    · exact h.elim
  case return_ =>
    dsimp only at h ⊢
    split at h
    · exact ⟨h.1, h.2.1, h.2.2.1, h.2.2.2, fun z => absurd h.1 (by omega), fun z => absurd h.1 (by omega)⟩
    · exact h.elim
  all_goals exact h
theorem am_call_rk : ∀ {d y : Nat} {as : List Value} {M : am_M} {P : am_T}, am_call cs d y as M P → am_call cs d y as M (fun r M => P r M ∧ am_rk (am_rt y) r)
  | 0, _, _, _, _, h => h.elim
  | _ + 1, _, _, _, _, h => ⟨h.1, fun X hX => h.2 X (fun pc lv st M len i hi q => hX pc lv st M len i hi (am_stp_rk q))⟩
theorem lw_int {y1 y2 : Nat} {as : List Value} {Q : am_T} (hb : both (d + 20) cs y1 y2 as f) (hr : am_rt y1 = 1 ∨ am_rt y1 = 2) (h : ∀ v : Int32, ∀ f1, am_call cs (d + 20) y2 (.ref 104 :: as) (mk f1) (fun r2 M2 => r2 = some (.int v) ∧ ∃ f2, M2 = mk f2 ∧ R f2) → Q (some (.int v)) (mk f1)) : am_call cs (d + 20) y1 (.ref 0 :: as) (mk f) Q := by
  refine am_call_mono _ _ _ _ _ _ _ ?_ (am_call_rk hb)
  intro r M q
  obtain ⟨⟨v, f1, rfl, rfl, h2⟩, hk⟩ := q
  obtain ⟨w, hw⟩ := hk.1 hr
  injection hw with hw
  subst hw
  exact h w f1 h2
theorem lw_lng {y1 y2 : Nat} {as : List Value} {Q : am_T} (hb : both (d + 20) cs y1 y2 as f) (hr : am_rt y1 = 3) (h : ∀ v : Int64, ∀ f1, am_call cs (d + 20) y2 (.ref 104 :: as) (mk f1) (fun r2 M2 => r2 = some (.long v) ∧ ∃ f2, M2 = mk f2 ∧ R f2) → Q (some (.long v)) (mk f1)) : am_call cs (d + 20) y1 (.ref 0 :: as) (mk f) Q := by
  refine am_call_mono _ _ _ _ _ _ _ ?_ (am_call_rk hb)
  intro r M q
  obtain ⟨⟨v, f1, rfl, rfl, h2⟩, hk⟩ := q
  obtain ⟨w, hw⟩ := hk.2 hr
  injection hw with hw
  subst hw
  exact h w f1 h2
theorem lw_end {y2 : Nat} {as : List Value} {v : Value} {Q : am_T} (h2 : am_call cs (d + 20) y2 (.ref 104 :: as) (mk f1) (fun r2 M2 => r2 = some v ∧ ∃ f2, M2 = mk f2 ∧ R f2)) (h : ∀ f2, R f2 → Q (some v) (mk f2)) : am_call cs (d + 20) y2 (.ref 104 :: as) (mk f1) Q := by
  refine am_call_mono _ _ _ _ _ _ _ ?_ h2
  intro r M q
  obtain ⟨rfl, f2, rfl, hR⟩ := q
  exact h f2 hR
theorem ix_L {i k L : Nat} (h : i + k < L) (hL : L ≤ 3072) : vp_in (Int32.ofNat (i + k)) L ∧ (Int32.ofNat (i + k)).toNatClampNeg = i + k := by
  have e := i_ofNat (n := i + k) (by omega)
  refine ⟨vp_in_iff.mpr (by omega), ?_⟩
  show ix (Int32.ofNat (i + k)) = i + k
  rw [ix_toInt, e]
  omega
theorem ad_L {i k : Nat} (hi : i + k < 10000) : Int32.ofNat i + Int32.ofNat k = Int32.ofNat (i + k) := i_eq (by
  have e1 := i_ofNat (n := i) (by omega)
  have e2 := i_ofNat (n := k) (by omega)
  rw [i_add (by omega) (by omega), e1, e2, i_ofNat (by omega)]
  omega)
theorem lg_cc {v : Int64} : lg_cmp v v = 0 := by
  unfold lg_cmp
  simp
end Law0
