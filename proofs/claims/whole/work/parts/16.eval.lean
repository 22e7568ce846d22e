/-! running the machine by evaluation (for the constructors) -/
abbrev am_S : Type := (Nat × am_L × List Value × am_M) ⊕ (Option Value × am_M)
def am_e1 (C : Nat → List Value → am_M → Option (Option Value × am_M)) (rt : Nat) (lim : Nat × Nat) (pc len : Nat) (i : Instr) (lv : am_L) (st : List Value) (M : am_M) : Option am_S :=
  match i with
  | .iconst n => some (.inl (pc + len, lv, .int (Int32.ofInt n) :: st, M))
  | .iload i => match am_lk i lv with | some (.int x) => some (.inl (pc + len, lv, .int x :: st, M)) | _ => none
  | .aload i => match am_lk i lv with | some (.ref x) => some (.inl (pc + len, lv, .ref x :: st, M)) | _ => none
  | .istore i => match st with | .int x :: st => some (.inl (pc + len, am_ls i (.int x) lv, st, M)) | _ => none
  | .iinc i n => match am_lk i lv with | some (.int x) => some (.inl (pc + len, am_ls i (.int (x + Int32.ofInt n)) lv, st, M)) | _ => none
  | .if_icmp c t => match c, st with | .ge, .int y :: .int x :: st => if y ≤ x then some (.inl (t.toNat, lv, st, M)) else some (.inl (pc + len, lv, st, M)) | _, _ => none
  | .goto t => some (.inl (t.toNat, lv, st, M))
  | .iadd => match st with | .int y :: .int x :: st => some (.inl (pc + len, lv, .int (x + y) :: st, M)) | _ => none
  | .dup => match st with | .ref x :: st => some (.inl (pc + len, lv, .ref x :: .ref x :: st, M)) | _ => none
  | .pop => match st with | .ref _ :: st => if (st.map fun v => v.category).sum ≤ 8 then some (.inl (pc + len, lv, st, M)) else none | _ => none
  | .getfield k => match st with
    | .ref a :: st => if (M.2.2.1 a).1 = k / 256 then (if k % 4 = 2 then (match M.2.2.2.2 a (k / 4 % 64) with | .ref b => some (.inl (pc + len, lv, .ref b :: st, M)) | _ => none) else some (.inl (pc + len, lv, .int (M.2.2.2.1 a (k / 4 % 64)) :: st, M))) else none
    | _ => none
  | .putfield k => match st with
    | .int x :: .ref a :: st => if (M.2.2.1 a).1 = k / 256 then (if k % 4 = 2 then none else if k % 4 = 1 then (if x = 0 ∨ x = 1 then some (.inl (pc + len, lv, st, am_si M a (k / 4 % 64) x)) else none) else some (.inl (pc + len, lv, st, am_si M a (k / 4 % 64) x))) else none
    | .ref b :: .ref a :: st => if (M.2.2.1 a).1 = k / 256 then (if k % 4 = 2 then some (.inl (pc + len, lv, st, am_sr M a (k / 4 % 64) (.ref b))) else none) else none
    | _ => none
  | .iastore => match st with
    | .int x :: .int j :: .ref a :: st => if (M.2.2.1 a).1 = 20 ∧ ¬ (j < 0 ∨ (M.2.2.1 a).2 ≤ j.toNatClampNeg) then some (.inl (pc + len, lv, st, am_si M a j.toNatClampNeg x)) else none
    | _ => none
  | .aastore => match st with
    | .ref b :: .int j :: .ref a :: st => if 22 ≤ (M.2.2.1 a).1 ∧ (M.2.2.1 a).1 < 25 ∧ ¬ (j < 0 ∨ (M.2.2.1 a).2 ≤ j.toNatClampNeg) ∧ (M.2.2.1 b).1 = am_el (M.2.2.1 a).1 then some (.inl (pc + len, lv, st, am_sr M a j.toNatClampNeg (.ref b))) else none
    | .retAddr b :: .int j :: .ref a :: st => if (M.2.2.1 a).1 = 25 ∧ ¬ (j < 0 ∨ (M.2.2.1 a).2 ≤ j.toNatClampNeg) ∧ b < 16 then some (.inl (pc + len, lv, st, am_sr M a j.toNatClampNeg (.retAddr b))) else none
    | _ => none
  | .new k => if M.1 + 1 ≤ lim.1 ∧ M.2.1 + k % 64 ≤ lim.2 then some (.inl (pc + len, lv, .ref (am_nx M.1) :: st, am_nw M (k / 64, k % 64) (k % 64))) else none
  | .newarray t => match st with
    | .int n :: st => if ¬ n < 0 ∧ n.toNatClampNeg ≤ 65536 ∧ M.1 + 1 ≤ lim.1 ∧ M.2.1 + n.toNatClampNeg ≤ lim.2 then some (.inl (pc + len, lv, .ref (am_nx M.1) :: st, am_nw M (if t = .int then 20 else 21, n.toNatClampNeg) n.toNatClampNeg)) else none
    | _ => none
  | .anewarray k => match st with
    | .int n :: st => if ¬ n < 0 ∧ n.toNatClampNeg ≤ 65536 ∧ M.1 + 1 ≤ lim.1 ∧ M.2.1 + n.toNatClampNeg ≤ lim.2 then some (.inl (pc + len, lv, .ref (am_nx M.1) :: st, am_nw M (k, n.toNatClampNeg) n.toNatClampNeg)) else none
    | _ => none
  | .ldc c => some (.inl (pc + len, lv, .retAddr c :: st, M))
  | .invokevirtual k => if k % 16 ≤ st.length ∧ (st.take (k % 16)).all (fun v => v.category == 1) = true ∧ ((st.drop (k % 16)).map fun v => v.category).sum ≤ 8 ∧ M.1 + (am_mc (k / 1024)).1 ≤ lim.1 ∧ M.2.1 + (am_mc (k / 1024)).2 ≤ lim.2 then
      (match (st.take (k % 16)).getLast? with
        | some (.ref a) => if k / 16 % 64 = 63 ∨ (M.2.2.1 a).1 = k / 16 % 64 then (match C (k / 1024) (st.take (k % 16)).reverse M with | some q => some (.inl (pc + len, lv, q.1.toList ++ st.drop (k % 16), q.2)) | none => none) else none
        | _ => none) else none
  | .return_ => match st with | [] => if rt = 0 ∧ M.1 = lim.1 ∧ M.2.1 = lim.2 then some (.inr (none, M)) else none | _ => none
  | _ => none
def am_es (K : am_K) (P : am_T) : am_S → Prop
  | .inl q => K q.1 q.2.1 q.2.2.1 q.2.2.2
  | .inr q => P q.1 q.2
theorem am_e1_ok {d : Nat} {cs : Nat → Nat × (Nat → Int32)} {C : Nat → List Value → am_M → Option (Option Value × am_M)} {C' : am_C} {rt : Nat} {lim : Nat × Nat} {pc len : Nat} {i : Instr} {lv : am_L} {st : List Value} {M : am_M} {r : am_S} {K : am_K} {P : am_T}
    (hC : ∀ y as M q (P : am_T), C y as M = some q → P q.1 q.2 → C' y as M P) (h : am_e1 C rt lim pc len i lv st M = some r) (hr : am_es K P r) : am_stp d cs C' rt lim P pc len i lv st M K := by
  unfold am_e1 at h
  unfold am_stp
  cases i
  case iconst n => cases h; exact hr
  case goto t => cases h; exact hr
  case ldc c => cases h; exact hr
  case iload i =>
    dsimp only at h ⊢
    split at h
    · rename_i z hz
      rw [hz]
      cases h
      exact hr
    · cases h
  case aload i =>
    dsimp only at h ⊢
    split at h
    · rename_i z hz
      rw [hz]
      cases h
      exact hr
    · cases h
  case iinc i n =>
    dsimp only at h ⊢
    split at h
    · rename_i z hz
      rw [hz]
      cases h
      exact hr
    · cases h
  case istore i => dsimp only at h ⊢; split at h <;> first | (cases h; exact hr) | cases h
  case iadd => dsimp only at h ⊢; split at h <;> first | (cases h; exact hr) | cases h
  case dup => dsimp only at h ⊢; split at h <;> first | (cases h; exact hr) | cases h
  case pop =>
    dsimp only at h ⊢
    split at h
    · split at h
      · rename_i hs; cases h; exact ⟨hs, hr⟩
      · cases h
    · cases h
  case if_icmp c t =>
    dsimp only at h ⊢
    split at h
    · by_cases hq : (‹Int32› : Int32) ≤ ‹Int32› <;> skip
      all_goals (split at h <;> (rename_i hs; cases h; exact ⟨fun q => by first | exact hr | exact absurd q hs, fun q => by first | exact hr | exact absurd hs q⟩))
    · cases h
  case getfield k =>
    dsimp only at h ⊢
    split at h
    · split at h
      · rename_i hs
        refine ⟨hs, ?_⟩
        split at h
        · rename_i h2
          rw [if_pos h2]
          split at h
          · rename_i b hb; cases h; exact ⟨b, hb, hr⟩
          · cases h
        · rename_i h2
          rw [if_neg h2]
          cases h; exact hr
      · cases h
    · cases h
  case putfield k =>
    dsimp only at h ⊢
    split at h
    · split at h
      · rename_i hs
        refine ⟨hs, ?_⟩
        split at h
        · cases h
        · rename_i h2
          rw [if_neg h2]
          split at h
          · rename_i h3
            rw [if_pos h3]
            split at h
            · rename_i h4; cases h; exact ⟨h4, hr⟩
            · cases h
          · rename_i h3
            rw [if_neg h3]
            cases h; exact hr
      · cases h
    · split at h
      · rename_i hs
        refine ⟨hs, ?_⟩
        split at h
        · rename_i h2
          rw [if_pos h2]
          cases h; exact hr
        · cases h
      · cases h
    · cases h
  case iastore =>
    dsimp only at h ⊢
    split at h
    · split at h
      · rename_i hs; cases h; exact ⟨hs.1, hs.2, hr⟩
      · cases h
    · cases h
  case aastore =>
    dsimp only at h ⊢
    split at h
    · split at h
      · rename_i hs; cases h; exact ⟨hs.1, hs.2.1, hs.2.2.1, hs.2.2.2, hr⟩
      · cases h
    · split at h
      · rename_i hs; cases h; exact ⟨hs.1, hs.2.1, hs.2.2, hr⟩
      · cases h
    · cases h
  case new k =>
    dsimp only at h ⊢
    split at h
    · rename_i hs; cases h; exact ⟨hs.1, hs.2, hr⟩
    · cases h
  case newarray t =>
    dsimp only at h ⊢
    split at h
    · split at h
      · rename_i hs; cases h; exact ⟨hs.1, hs.2.1, hs.2.2.1, hs.2.2.2, hr⟩
      · cases h
    · cases h
  case anewarray k =>
    dsimp only at h ⊢
    split at h
    · split at h
      · rename_i hs; cases h; exact ⟨hs.1, hs.2.1, hs.2.2.1, hs.2.2.2, hr⟩
      · cases h
    · cases h
  case invokevirtual k =>
    dsimp only at h ⊢
    split at h
    · rename_i hs
      split at h
      · rename_i a ha
        split at h
        · rename_i h63
          split at h
          · rename_i q hq
            cases h
            refine ⟨hs.1, hs.2.1, hs.2.2.1, ?_, hs.2.2.2.1, hs.2.2.2.2, hC _ _ _ q _ hq hr⟩
            by_cases h6 : k / 16 % 64 = 63
            · rw [if_pos h6]; trivial
            · rw [if_neg h6]; exact ⟨a, ha, h63.resolve_left h6⟩
          · cases h
        · cases h
      · cases h
    · cases h
  case return_ =>
    dsimp only at h ⊢
    split at h
    · split at h
      · rename_i hs; cases h; exact ⟨hs.1, hs.2.1, hs.2.2, hr⟩
      · cases h
    · cases h
  all_goals cases h
def am_er (C : Nat → List Value → am_M → Option (Option Value × am_M)) (y rt : Nat) (lim : Nat × Nat) : Nat → Nat → am_L → List Value → am_M → Option (Option Value × am_M)
  | 0, _, _, _, _ => none
  | n + 1, pc, lv, st, M => match (am_cd y).find? (fun e => e.1 == pc) with
    | some e => (match am_e1 C rt lim pc e.2.1 e.2.2 lv st M with
      | some (.inl q) => am_er C y rt lim n q.1 q.2.1 q.2.2.1 q.2.2.2
      | some (.inr q) => some q
      | none => none)
    | none => none
def am_ec : Nat → Nat → List Value → am_M → Option (Option Value × am_M)
  | 0, _, _, _ => none
  | d + 1, y, as, M => if y < 256 then am_er (am_ec d) y (am_rt y) (M.1 + (am_mc y).1, M.2.1 + (am_mc y).2) 400 0 (lv_args 0 as) [] M else none
theorem am_er_ok {d d' : Nat} {cs : Nat → Nat × (Nat → Int32)} {C : Nat → List Value → am_M → Option (Option Value × am_M)} {y rt : Nat} {lim : Nat × Nat} {q : Option Value × am_M} {P : am_T} (hP : P q.1 q.2)
    (hC : ∀ y as M q (P : am_T), C y as M = some q → P q.1 q.2 → am_call cs d' y as M P) : ∀ (n pc : Nat) (lv : am_L) (st : List Value) (M : am_M), am_er C y rt lim n pc lv st M = some q → am_wp d cs (am_call cs d') y rt lim P pc lv st M
  | 0, _, _, _, _, h => by cases h
  | n + 1, pc, lv, st, M, h => by
    rw [am_er] at h
    split at h
    · rename_i e he
      have hm := List.mem_of_find?_eq_some he
      have hp : e.1 = pc := by simpa using List.find?_some he
      subst hp
      refine am_wp_step (i := e.2.2) (len := e.2.1) hm ?_
      split at h
      · rename_i z hz
        exact am_e1_ok hC hz (am_er_ok hP hC n _ _ _ _ h)
      · rename_i z hz
        cases h
        exact am_e1_ok (r := .inr q) hC hz hP
      · cases h
    · cases h
theorem am_ec_ok {cs : Nat → Nat × (Nat → Int32)} : ∀ (d y : Nat) (as : List Value) (M : am_M) (q : Option Value × am_M) (P : am_T), am_ec d y as M = some q → P q.1 q.2 → am_call cs d y as M P
  | 0, _, _, _, _, _, h, _ => by cases h
  | d + 1, y, as, M, q, P, h, hP => by
    rw [am_ec] at h
    split at h
    · rename_i hy
      exact ⟨hy, am_er_ok hP (fun y as M q P h1 h2 => am_ec_ok d y as M q P h1 h2) _ _ _ _ _ h⟩
    · cases h
def am_m0 : am_M := am_nw am_M0 (8, 8) 8
def am_m1 : am_M := ((am_ec 12 0 [.ref 0] am_m0).getD (none, am_M0)).2
def am_m2 : am_M := am_nw am_m1 (9, 26) 26
def am_m3 : am_M := ((am_ec 12 9 [.ref 104] am_m2).getD (none, am_M0)).2
def am_isN (o : Option (Option Value × am_M)) : Bool := match o with | some (none, _) => true | _ => false
theorem am_isN_eq {o : Option (Option Value × am_M)} (h : am_isN o = true) : o = some (none, (o.getD (none, am_M0)).2) := by
  unfold am_isN at h
  split at h
  · rfl
  · cases h
theorem am_new1 : am_isN (am_ec 12 0 [.ref 0] am_m0) = true := by decide +kernel
theorem am_new2 : am_isN (am_ec 12 9 [.ref 104] am_m2) = true := by decide +kernel
