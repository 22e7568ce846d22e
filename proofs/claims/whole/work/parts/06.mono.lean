theorem am_stp_mono {d : Nat} {cs : Nat → Nat × (Nat → Int32)} {C : am_C} {rt : Nat} {lim : Nat × Nat} {P P' : am_T} {pc len : Nat} {i : Instr} {lv : am_L} {st : List Value} {M : am_M} {K K' : am_K}
    (hC : ∀ y as M (P P' : am_T), (∀ r M, P r M → P' r M) → C y as M P → C y as M P') (hP : ∀ r M, P r M → P' r M) (hK : ∀ pc lv st M, K pc lv st M → K' pc lv st M)
    (h : am_stp d cs C rt lim P pc len i lv st M K) : am_stp d cs C rt lim P' pc len i lv st M K' := by
  unfold am_stp at h ⊢
  cases i
  case ifCond c t =>
    dsimp only at h ⊢
    split at h
    · exact am_br_mono (hK _ _ _ _) (hK _ _ _ _) h
    · exact h.elim
  case if_icmp c t =>
    dsimp only at h ⊢
    split at h
    · exact am_br_mono (hK _ _ _ _) (hK _ _ _ _) h
    · exact h.elim
  case lookupswitch t ps =>
    dsimp only at h ⊢
    split at h
    · exact am_sw_mono (fun t => hK _ _ _ _) _ h
    · exact h.elim
  case invokevirtual k => exact ⟨h.1, h.2.1, h.2.2.1, h.2.2.2.1, h.2.2.2.2.1, h.2.2.2.2.2.1, hC _ _ _ _ _ (fun r M1 q => hK _ _ _ _ q) h.2.2.2.2.2.2⟩
  case getfield k =>
    dsimp only at h ⊢
    split at h
    · refine ⟨h.1, ?_⟩
      have h2 := h.2
      by_cases hk : k % 4 = 2
      · rw [if_pos hk] at h2 ⊢
        obtain ⟨b, e, q⟩ := h2
        exact ⟨b, e, hK _ _ _ _ q⟩
      · rw [if_neg hk] at h2 ⊢
        exact hK _ _ _ _ h2
    · exact h.elim
  case putfield k =>
    dsimp only at h ⊢
    split at h
    · refine ⟨h.1, ?_⟩
      have h2 := h.2
      by_cases hk : k % 4 = 2
      · rw [if_pos hk] at h2
        exact h2.elim
      · rw [if_neg hk] at h2 ⊢
        by_cases hk1 : k % 4 = 1
        · rw [if_pos hk1] at h2 ⊢
          exact ⟨h2.1, hK _ _ _ _ h2.2⟩
        · rw [if_neg hk1] at h2 ⊢
          exact hK _ _ _ _ h2
    · refine ⟨h.1, ?_⟩
      have h2 := h.2
      by_cases hk : k % 4 = 2
      · rw [if_pos hk] at h2 ⊢
        exact hK _ _ _ _ h2
      · rw [if_neg hk] at h2
        exact h2.elim
    · exact h.elim
  case iaload =>
    dsimp only at h ⊢
    split at h
    · exact ⟨h.1, h.2.1, hK _ _ _ _ h.2.2⟩
    · exact ⟨h.1, h.2.1, h.2.2.1, hK _ _ _ _ h.2.2.2⟩
    · exact h.elim
  case aaload =>
    dsimp only at h ⊢
    split at h
    · refine ⟨h.1, h.2.1, h.2.2.1, ?_⟩
      rcases h.2.2.2 with ⟨b, e, q⟩ | ⟨b, e, q⟩
      · exact Or.inl ⟨b, e, hK _ _ _ _ q⟩
      · exact Or.inr ⟨b, e, hK _ _ _ _ q⟩
    · exact h.elim
  case aastore =>
    dsimp only at h ⊢
    split at h
    · exact ⟨h.1, h.2.1, h.2.2.1, h.2.2.2.1, hK _ _ _ _ h.2.2.2.2⟩
    · exact ⟨h.1, h.2.1, h.2.2.1, hK _ _ _ _ h.2.2.2⟩
    · exact h.elim
  case arraylength =>
    dsimp only at h ⊢
    split at h
    · exact ⟨h.1, h.2.1, hK _ _ _ _ h.2.2⟩
    · exact ⟨h.1, hK _ _ _ _ h.2⟩
    · exact h.elim
  case new k => exact ⟨h.1, h.2.1, hK _ _ _ _ h.2.2⟩
  case newarray t =>
    dsimp only at h ⊢
    split at h
    · exact ⟨h.1, h.2.1, h.2.2.1, h.2.2.2.1, hK _ _ _ _ h.2.2.2.2⟩
    · exact h.elim
  case anewarray k =>
    dsimp only at h ⊢
    split at h
    · exact ⟨h.1, h.2.1, h.2.2.1, h.2.2.2.1, hK _ _ _ _ h.2.2.2.2⟩
    · exact h.elim
  case invokestatic k =>
    dsimp only at h ⊢
    split at h
    · exact ⟨h.1, h.2.1, h.2.2.1, h.2.2.2.1, h.2.2.2.2.1, h.2.2.2.2.2.1, h.2.2.2.2.2.2.1, h.2.2.2.2.2.2.2.1, hK _ _ _ _ h.2.2.2.2.2.2.2.2⟩
    · exact h.elim
  case invokespecial n =>
    dsimp only at h ⊢
    split at h
    · exact ⟨h.1, h.2.1, h.2.2.1, h.2.2.2.1, h.2.2.2.2.1, hK _ _ _ _ h.2.2.2.2.2⟩
    · exact ⟨h.1, h.2.1, h.2.2.1, h.2.2.2.1, h.2.2.2.2.1, h.2.2.2.2.2.1, hK _ _ _ _ h.2.2.2.2.2.2⟩
    · exact ⟨h.1, h.2.1, h.2.2.1, hK _ _ _ _ h.2.2.2⟩
    · exact ⟨h.1, h.2.1, h.2.2.1, hK _ _ _ _ h.2.2.2⟩
    · exact h.elim
  case ireturn =>
    dsimp only at h ⊢
    split at h
    · exact ⟨h.1, h.2.1, h.2.2.1, hP _ _ h.2.2.2⟩
    · exact h.elim
  case lreturn =>
    dsimp only at h ⊢
    split at h
    · exact ⟨h.1, h.2.1, h.2.2.1, hP _ _ h.2.2.2⟩
    · exact h.elim
  case areturn =>
    dsimp only at h ⊢
    split at h
    · exact ⟨h.1, h.2.1, h.2.2.1, hP _ _ h.2.2.2⟩
    · exact ⟨h.1, h.2.1, h.2.2.1, hP _ _ h.2.2.2⟩
    · exact h.elim
  case return_ =>
    dsimp only at h ⊢
    split at h
    · exact ⟨h.1, h.2.1, h.2.2.1, hP _ _ h.2.2.2⟩
    · exact h.elim
  case pop =>
    dsimp only at h ⊢
    split at h
    · exact ⟨h.1, hK _ _ _ _ h.2⟩
    · exact h.elim
  case irem =>
    dsimp only at h ⊢
    split at h
    · exact ⟨h.1, hK _ _ _ _ h.2⟩
    · exact h.elim
  case baload =>
    dsimp only at h ⊢
    split at h
    · exact ⟨h.1, h.2.1, hK _ _ _ _ h.2.2⟩
    · exact h.elim
  case iastore =>
    dsimp only at h ⊢
    split at h
    · exact ⟨h.1, h.2.1, hK _ _ _ _ h.2.2⟩
    · exact h.elim
  case bastore =>
    dsimp only at h ⊢
    split at h
    · exact ⟨h.1, h.2.1, hK _ _ _ _ h.2.2⟩
    · exact h.elim
  case iload i => dsimp only at h ⊢; split at h <;> first | exact h.elim | exact hK _ _ _ _ h
  case lload i => dsimp only at h ⊢; split at h <;> first | exact h.elim | exact hK _ _ _ _ h
  case aload i => dsimp only at h ⊢; split at h <;> first | exact h.elim | exact hK _ _ _ _ h
  case iinc i n => dsimp only at h ⊢; split at h <;> first | exact h.elim | exact hK _ _ _ _ h
  all_goals first | exact h.elim | exact hK _ _ _ _ h | (dsimp only at h ⊢; split at h <;> first | exact h.elim | exact hK _ _ _ _ h)
theorem am_wp_mono {d : Nat} {cs : Nat → Nat × (Nat → Int32)} {C : am_C} {y rt : Nat} {lim : Nat × Nat} {P P' : am_T} (hC : ∀ y as M (P P' : am_T), (∀ r M, P r M → P' r M) → C y as M P → C y as M P') (hP : ∀ r M, P r M → P' r M)
    {pc : Nat} {lv : am_L} {st : List Value} {M : am_M} (h : am_wp d cs C y rt lim P pc lv st M) : am_wp d cs C y rt lim P' pc lv st M :=
  fun X hX => h X (fun pc lv st M len i hi q => hX pc lv st M len i hi (am_stp_mono hC hP (fun _ _ _ _ q => q) q))
theorem am_call_mono (cs : Nat → Nat × (Nat → Int32)) : ∀ (d y : Nat) (as : List Value) (M : am_M) (P P' : am_T), (∀ r M, P r M → P' r M) → am_call cs d y as M P → am_call cs d y as M P'
  | 0, _, _, _, _, _, _, h => h
  | d + 1, _, _, _, _, _, hP, h => ⟨h.1, am_wp_mono (am_call_mono cs d) hP h.2⟩
theorem am_wp_step {d : Nat} {cs : Nat → Nat × (Nat → Int32)} {d' y rt : Nat} {lim : Nat × Nat} {P : am_T} {pc len : Nat} {i : Instr} {lv : am_L} {st : List Value} {M : am_M} (hi : (pc, len, i) ∈ am_cd y)
    (h : am_stp d cs (am_call cs d') rt lim P pc len i lv st M (am_wp d cs (am_call cs d') y rt lim P)) : am_wp d cs (am_call cs d') y rt lim P pc lv st M :=
  fun X hX => hX pc lv st M len i hi (am_stp_mono (am_call_mono cs d') (fun _ _ q => q) (fun pc lv st M q => q X hX) h)
