/-! running a stretch of code: forward as far as it goes, then K -/
def am_go (d : Nat) (cs : Nat → Nat × (Nat → Int32)) (C : am_C) (rt : Nat) (lim : Nat × Nat) (P : am_T) : List (Nat × Nat × Instr) → am_K → am_K
  | [], K, pc, lv, st, M => K pc lv st M
  | e :: l, K, pc, lv, st, M => if pc = e.1 then am_stp d cs C rt lim P pc e.2.1 e.2.2 lv st M (am_go d cs C rt lim P l K) else am_go d cs C rt lim P l K pc lv st M
theorem am_go_nil {d : Nat} {cs : Nat → Nat × (Nat → Int32)} {C : am_C} {rt : Nat} {lim : Nat × Nat} {P : am_T} {K : am_K} {pc : Nat} {lv : am_L} {st : List Value} {M : am_M} : am_go d cs C rt lim P [] K pc lv st M = K pc lv st M := rfl
theorem am_go_hit {d : Nat} {cs : Nat → Nat × (Nat → Int32)} {C : am_C} {rt : Nat} {lim : Nat × Nat} {P : am_T} {K : am_K} {pc n : Nat} {i : Instr} {l : List (Nat × Nat × Instr)} {lv : am_L} {st : List Value} {M : am_M} : am_go d cs C rt lim P ((pc, n, i) :: l) K pc lv st M = am_stp d cs C rt lim P pc n i lv st M (am_go d cs C rt lim P l K) := if_pos rfl
theorem am_go_cons {d : Nat} {cs : Nat → Nat × (Nat → Int32)} {C : am_C} {rt : Nat} {lim : Nat × Nat} {P : am_T} {K : am_K} {pc q n : Nat} {i : Instr} {l : List (Nat × Nat × Instr)} {lv : am_L} {st : List Value} {M : am_M} : am_go d cs C rt lim P ((q, n, i) :: l) K pc lv st M = if pc = q then am_stp d cs C rt lim P pc n i lv st M (am_go d cs C rt lim P l K) else am_go d cs C rt lim P l K pc lv st M := rfl
theorem am_go_wp {d : Nat} {cs : Nat → Nat × (Nat → Int32)} {d' y rt : Nat} {lim : Nat × Nat} {P : am_T} : ∀ {l : List (Nat × Nat × Instr)}, (∀ e ∈ l, e ∈ am_cd y) → ∀ {pc : Nat} {lv : am_L} {st : List Value} {M : am_M}, am_go d cs (am_call cs d') rt lim P l (am_wp d cs (am_call cs d') y rt lim P) pc lv st M → am_wp d cs (am_call cs d') y rt lim P pc lv st M
  | [], _, _, _, _, _, h => h
  | e :: l, hl, pc, lv, st, M, h => by
    have ih : ∀ pc lv st M, am_go d cs (am_call cs d') rt lim P l (am_wp d cs (am_call cs d') y rt lim P) pc lv st M → am_wp d cs (am_call cs d') y rt lim P pc lv st M := fun _ _ _ _ q => am_go_wp (fun e he => hl e (List.mem_cons_of_mem _ he)) q
    rw [am_go] at h
    by_cases hp : pc = e.1
    · rw [if_pos hp] at h
      refine am_wp_step (i := e.2.2) (len := e.2.1) (by rw [hp]; exact hl e List.mem_cons_self) ?_
      exact am_stp_mono (am_call_mono cs d') (fun _ _ q => q) ih h
    · rw [if_neg hp] at h
      exact ih _ _ _ _ h
theorem st_iconst {d : Nat} {cs : Nat → Nat × (Nat → Int32)} {C : am_C} {rt : Nat} {lim : Nat × Nat} {P : am_T} {pc len : Nat} {lv : am_L} {st : List Value} {M : am_M} {K : am_K} {n} : am_stp d cs C rt lim P pc len (.iconst n) lv st M K = (K (pc + len) lv (.int (Int32.ofInt n) :: st) M) := rfl
theorem st_lconst {d : Nat} {cs : Nat → Nat × (Nat → Int32)} {C : am_C} {rt : Nat} {lim : Nat × Nat} {P : am_T} {pc len : Nat} {lv : am_L} {st : List Value} {M : am_M} {K : am_K} {n} : am_stp d cs C rt lim P pc len (.lconst n) lv st M K = (K (pc + len) lv (.long (Int64.ofNat (n : Nat)) :: st) M) := rfl
theorem st_iload {d : Nat} {cs : Nat → Nat × (Nat → Int32)} {C : am_C} {rt : Nat} {lim : Nat × Nat} {P : am_T} {pc len : Nat} {lv : am_L} {st : List Value} {M : am_M} {K : am_K} {i} : am_stp d cs C rt lim P pc len (.iload i) lv st M K = (match am_lk i lv with | some (.int x) => K (pc + len) lv (.int x :: st) M | _ => False) := rfl
theorem st_lload {d : Nat} {cs : Nat → Nat × (Nat → Int32)} {C : am_C} {rt : Nat} {lim : Nat × Nat} {P : am_T} {pc len : Nat} {lv : am_L} {st : List Value} {M : am_M} {K : am_K} {i} : am_stp d cs C rt lim P pc len (.lload i) lv st M K = (match am_lk i lv with | some (.long x) => K (pc + len) lv (.long x :: st) M | _ => False) := rfl
theorem st_aload {d : Nat} {cs : Nat → Nat × (Nat → Int32)} {C : am_C} {rt : Nat} {lim : Nat × Nat} {P : am_T} {pc len : Nat} {lv : am_L} {st : List Value} {M : am_M} {K : am_K} {i} : am_stp d cs C rt lim P pc len (.aload i) lv st M K = (match am_lk i lv with | some (.ref x) => K (pc + len) lv (.ref x :: st) M | some (.retAddr x) => K (pc + len) lv (.retAddr x :: st) M | _ => False) := rfl
theorem st_istore {d : Nat} {cs : Nat → Nat × (Nat → Int32)} {C : am_C} {rt : Nat} {lim : Nat × Nat} {P : am_T} {pc len : Nat} {lv : am_L} {st : List Value} {M : am_M} {K : am_K} {i} : am_stp d cs C rt lim P pc len (.istore i) lv st M K = (match st with | .int x :: st => K (pc + len) (am_ls i (.int x) lv) st M | _ => False) := rfl
theorem st_lstore {d : Nat} {cs : Nat → Nat × (Nat → Int32)} {C : am_C} {rt : Nat} {lim : Nat × Nat} {P : am_T} {pc len : Nat} {lv : am_L} {st : List Value} {M : am_M} {K : am_K} {i} : am_stp d cs C rt lim P pc len (.lstore i) lv st M K = (match st with | .long x :: st => K (pc + len) (am_ls2 i (.long x) lv) st M | _ => False) := rfl
theorem st_astore {d : Nat} {cs : Nat → Nat × (Nat → Int32)} {C : am_C} {rt : Nat} {lim : Nat × Nat} {P : am_T} {pc len : Nat} {lv : am_L} {st : List Value} {M : am_M} {K : am_K} {i} : am_stp d cs C rt lim P pc len (.astore i) lv st M K = (match st with | .ref x :: st => K (pc + len) (am_ls i (.ref x) lv) st M | .retAddr x :: st => K (pc + len) (am_ls i (.retAddr x) lv) st M | _ => False) := rfl
theorem st_iinc {d : Nat} {cs : Nat → Nat × (Nat → Int32)} {C : am_C} {rt : Nat} {lim : Nat × Nat} {P : am_T} {pc len : Nat} {lv : am_L} {st : List Value} {M : am_M} {K : am_K} {i} {n} : am_stp d cs C rt lim P pc len (.iinc i n) lv st M K = (match am_lk i lv with | some (.int x) => K (pc + len) (am_ls i (.int (x + Int32.ofInt n)) lv) st M | _ => False) := rfl
theorem st_ifCond {d : Nat} {cs : Nat → Nat × (Nat → Int32)} {C : am_C} {rt : Nat} {lim : Nat × Nat} {P : am_T} {pc len : Nat} {lv : am_L} {st : List Value} {M : am_M} {K : am_K} {c} {t} : am_stp d cs C rt lim P pc len (.ifCond c t) lv st M K = (match st with | .int x :: st => am_br c x 0 (K t.toNat lv st M) (K (pc + len) lv st M) | _ => False) := rfl
theorem st_if_icmp {d : Nat} {cs : Nat → Nat × (Nat → Int32)} {C : am_C} {rt : Nat} {lim : Nat × Nat} {P : am_T} {pc len : Nat} {lv : am_L} {st : List Value} {M : am_M} {K : am_K} {c} {t} : am_stp d cs C rt lim P pc len (.if_icmp c t) lv st M K = (match st with | .int y :: .int x :: st => am_br c x y (K t.toNat lv st M) (K (pc + len) lv st M) | _ => False) := rfl
theorem st_goto {d : Nat} {cs : Nat → Nat × (Nat → Int32)} {C : am_C} {rt : Nat} {lim : Nat × Nat} {P : am_T} {pc len : Nat} {lv : am_L} {st : List Value} {M : am_M} {K : am_K} {t} : am_stp d cs C rt lim P pc len (.goto t) lv st M K = (K t.toNat lv st M) := rfl
theorem st_lookupswitch {d : Nat} {cs : Nat → Nat × (Nat → Int32)} {C : am_C} {rt : Nat} {lim : Nat × Nat} {P : am_T} {pc len : Nat} {lv : am_L} {st : List Value} {M : am_M} {K : am_K} {t} {ps} : am_stp d cs C rt lim P pc len (.lookupswitch t ps) lv st M K = (match st with | .int x :: st => am_sw x (fun t => K t.toNat lv st M) t ps.toList | _ => False) := rfl
theorem st_iadd {d : Nat} {cs : Nat → Nat × (Nat → Int32)} {C : am_C} {rt : Nat} {lim : Nat × Nat} {P : am_T} {pc len : Nat} {lv : am_L} {st : List Value} {M : am_M} {K : am_K}  : am_stp d cs C rt lim P pc len (.iadd) lv st M K = (match st with | .int y :: .int x :: st => K (pc + len) lv (.int (x + y) :: st) M | _ => False) := rfl
theorem st_isub {d : Nat} {cs : Nat → Nat × (Nat → Int32)} {C : am_C} {rt : Nat} {lim : Nat × Nat} {P : am_T} {pc len : Nat} {lv : am_L} {st : List Value} {M : am_M} {K : am_K}  : am_stp d cs C rt lim P pc len (.isub) lv st M K = (match st with | .int y :: .int x :: st => K (pc + len) lv (.int (x - y) :: st) M | _ => False) := rfl
theorem st_imul {d : Nat} {cs : Nat → Nat × (Nat → Int32)} {C : am_C} {rt : Nat} {lim : Nat × Nat} {P : am_T} {pc len : Nat} {lv : am_L} {st : List Value} {M : am_M} {K : am_K}  : am_stp d cs C rt lim P pc len (.imul) lv st M K = (match st with | .int y :: .int x :: st => K (pc + len) lv (.int (x * y) :: st) M | _ => False) := rfl
theorem st_irem {d : Nat} {cs : Nat → Nat × (Nat → Int32)} {C : am_C} {rt : Nat} {lim : Nat × Nat} {P : am_T} {pc len : Nat} {lv : am_L} {st : List Value} {M : am_M} {K : am_K}  : am_stp d cs C rt lim P pc len (.irem) lv st M K = (match st with | .int y :: .int x :: st => ¬ y = 0 ∧ K (pc + len) lv (.int (x - x / y * y) :: st) M | _ => False) := rfl
theorem st_iand {d : Nat} {cs : Nat → Nat × (Nat → Int32)} {C : am_C} {rt : Nat} {lim : Nat × Nat} {P : am_T} {pc len : Nat} {lv : am_L} {st : List Value} {M : am_M} {K : am_K}  : am_stp d cs C rt lim P pc len (.iand) lv st M K = (match st with | .int y :: .int x :: st => K (pc + len) lv (.int (x &&& y) :: st) M | _ => False) := rfl
theorem st_ior {d : Nat} {cs : Nat → Nat × (Nat → Int32)} {C : am_C} {rt : Nat} {lim : Nat × Nat} {P : am_T} {pc len : Nat} {lv : am_L} {st : List Value} {M : am_M} {K : am_K}  : am_stp d cs C rt lim P pc len (.ior) lv st M K = (match st with | .int y :: .int x :: st => K (pc + len) lv (.int (x ||| y) :: st) M | _ => False) := rfl
theorem st_ishl {d : Nat} {cs : Nat → Nat × (Nat → Int32)} {C : am_C} {rt : Nat} {lim : Nat × Nat} {P : am_T} {pc len : Nat} {lv : am_L} {st : List Value} {M : am_M} {K : am_K}  : am_stp d cs C rt lim P pc len (.ishl) lv st M K = (match st with | .int y :: .int x :: st => K (pc + len) lv (.int (x <<< (y &&& 31)) :: st) M | _ => False) := rfl
theorem st_ishr {d : Nat} {cs : Nat → Nat × (Nat → Int32)} {C : am_C} {rt : Nat} {lim : Nat × Nat} {P : am_T} {pc len : Nat} {lv : am_L} {st : List Value} {M : am_M} {K : am_K}  : am_stp d cs C rt lim P pc len (.ishr) lv st M K = (match st with | .int y :: .int x :: st => K (pc + len) lv (.int (x >>> (y &&& 31)) :: st) M | _ => False) := rfl
theorem st_iushr {d : Nat} {cs : Nat → Nat × (Nat → Int32)} {C : am_C} {rt : Nat} {lim : Nat × Nat} {P : am_T} {pc len : Nat} {lv : am_L} {st : List Value} {M : am_M} {K : am_K}  : am_stp d cs C rt lim P pc len (.iushr) lv st M K = (match st with | .int y :: .int x :: st => K (pc + len) lv (.int (x.toUInt32 >>> (y.toUInt32 &&& Int32.toUInt32 31)).toInt32 :: st) M | _ => False) := rfl
theorem st_i2l {d : Nat} {cs : Nat → Nat × (Nat → Int32)} {C : am_C} {rt : Nat} {lim : Nat × Nat} {P : am_T} {pc len : Nat} {lv : am_L} {st : List Value} {M : am_M} {K : am_K}  : am_stp d cs C rt lim P pc len (.i2l) lv st M K = (match st with | .int x :: st => K (pc + len) lv (.long x.toInt64 :: st) M | _ => False) := rfl
theorem st_i2b {d : Nat} {cs : Nat → Nat × (Nat → Int32)} {C : am_C} {rt : Nat} {lim : Nat × Nat} {P : am_T} {pc len : Nat} {lv : am_L} {st : List Value} {M : am_M} {K : am_K}  : am_stp d cs C rt lim P pc len (.i2b) lv st M K = (match st with | .int x :: st => K (pc + len) lv (.int x.toInt8.toInt32 :: st) M | _ => False) := rfl
theorem st_i2s {d : Nat} {cs : Nat → Nat × (Nat → Int32)} {C : am_C} {rt : Nat} {lim : Nat × Nat} {P : am_T} {pc len : Nat} {lv : am_L} {st : List Value} {M : am_M} {K : am_K}  : am_stp d cs C rt lim P pc len (.i2s) lv st M K = (match st with | .int x :: st => K (pc + len) lv (.int x.toInt16.toInt32 :: st) M | _ => False) := rfl
theorem st_ladd {d : Nat} {cs : Nat → Nat × (Nat → Int32)} {C : am_C} {rt : Nat} {lim : Nat × Nat} {P : am_T} {pc len : Nat} {lv : am_L} {st : List Value} {M : am_M} {K : am_K}  : am_stp d cs C rt lim P pc len (.ladd) lv st M K = (match st with | .long y :: .long x :: st => K (pc + len) lv (.long (x + y) :: st) M | _ => False) := rfl
theorem st_lmul {d : Nat} {cs : Nat → Nat × (Nat → Int32)} {C : am_C} {rt : Nat} {lim : Nat × Nat} {P : am_T} {pc len : Nat} {lv : am_L} {st : List Value} {M : am_M} {K : am_K}  : am_stp d cs C rt lim P pc len (.lmul) lv st M K = (match st with | .long y :: .long x :: st => K (pc + len) lv (.long (x * y) :: st) M | _ => False) := rfl
theorem st_lcmp {d : Nat} {cs : Nat → Nat × (Nat → Int32)} {C : am_C} {rt : Nat} {lim : Nat × Nat} {P : am_T} {pc len : Nat} {lv : am_L} {st : List Value} {M : am_M} {K : am_K}  : am_stp d cs C rt lim P pc len (.lcmp) lv st M K = (match st with | .long y :: .long x :: st => K (pc + len) lv (.int (lg_cmp x y) :: st) M | _ => False) := rfl
theorem st_dup {d : Nat} {cs : Nat → Nat × (Nat → Int32)} {C : am_C} {rt : Nat} {lim : Nat × Nat} {P : am_T} {pc len : Nat} {lv : am_L} {st : List Value} {M : am_M} {K : am_K}  : am_stp d cs C rt lim P pc len (.dup) lv st M K = (match st with | .int x :: st => K (pc + len) lv (.int x :: .int x :: st) M | .ref x :: st => K (pc + len) lv (.ref x :: .ref x :: st) M | _ => False) := rfl
theorem st_dup2 {d : Nat} {cs : Nat → Nat × (Nat → Int32)} {C : am_C} {rt : Nat} {lim : Nat × Nat} {P : am_T} {pc len : Nat} {lv : am_L} {st : List Value} {M : am_M} {K : am_K}  : am_stp d cs C rt lim P pc len (.dup2) lv st M K = (match st with | .int x :: .ref a :: st => K (pc + len) lv (.int x :: .ref a :: .int x :: .ref a :: st) M | _ => False) := rfl
theorem st_pop {d : Nat} {cs : Nat → Nat × (Nat → Int32)} {C : am_C} {rt : Nat} {lim : Nat × Nat} {P : am_T} {pc len : Nat} {lv : am_L} {st : List Value} {M : am_M} {K : am_K}  : am_stp d cs C rt lim P pc len (.pop) lv st M K = (match st with | .ref _ :: st => (st.map fun v => v.category).sum ≤ 8 ∧ K (pc + len) lv st M | _ => False) := rfl
theorem st_getfield {d : Nat} {cs : Nat → Nat × (Nat → Int32)} {C : am_C} {rt : Nat} {lim : Nat × Nat} {P : am_T} {pc len : Nat} {lv : am_L} {st : List Value} {M : am_M} {K : am_K} {k} : am_stp d cs C rt lim P pc len (.getfield k) lv st M K = (match st with
    | .ref a :: st => (M.2.2.1 a).1 = k / 256 ∧ (if k % 4 = 2 then ∃ b, M.2.2.2.2 a (k / 4 % 64) = .ref b ∧ K (pc + len) lv (.ref b :: st) M else K (pc + len) lv (.int (M.2.2.2.1 a (k / 4 % 64)) :: st) M)
    | _ => False) := rfl
theorem st_putfield {d : Nat} {cs : Nat → Nat × (Nat → Int32)} {C : am_C} {rt : Nat} {lim : Nat × Nat} {P : am_T} {pc len : Nat} {lv : am_L} {st : List Value} {M : am_M} {K : am_K} {k} : am_stp d cs C rt lim P pc len (.putfield k) lv st M K = (match st with
    | .int x :: .ref a :: st => (M.2.2.1 a).1 = k / 256 ∧ (if k % 4 = 2 then False else if k % 4 = 1 then (x = 0 ∨ x = 1) ∧ K (pc + len) lv st (am_si M a (k / 4 % 64) x) else K (pc + len) lv st (am_si M a (k / 4 % 64) x))
    | .ref b :: .ref a :: st => (M.2.2.1 a).1 = k / 256 ∧ (if k % 4 = 2 then K (pc + len) lv st (am_sr M a (k / 4 % 64) (.ref b)) else False)
    | _ => False) := rfl
theorem st_iaload {d : Nat} {cs : Nat → Nat × (Nat → Int32)} {C : am_C} {rt : Nat} {lim : Nat × Nat} {P : am_T} {pc len : Nat} {lv : am_L} {st : List Value} {M : am_M} {K : am_K}  : am_stp d cs C rt lim P pc len (.iaload) lv st M K = (match st with
    | .int j :: .ref a :: st => (M.2.2.1 a).1 = 20 ∧ vp_in j (M.2.2.1 a).2 ∧ K (pc + len) lv (.int (M.2.2.2.1 a j.toNatClampNeg) :: st) M
    | .int j :: .retAddr c :: st => 16 ≤ c ∧ c < 18 ∧ vp_in j (cs c).1 ∧ K (pc + len) lv (.int ((cs c).2 j.toNatClampNeg) :: st) M
    | _ => False) := rfl
theorem st_baload {d : Nat} {cs : Nat → Nat × (Nat → Int32)} {C : am_C} {rt : Nat} {lim : Nat × Nat} {P : am_T} {pc len : Nat} {lv : am_L} {st : List Value} {M : am_M} {K : am_K}  : am_stp d cs C rt lim P pc len (.baload) lv st M K = (match st with
    | .int j :: .ref a :: st => (M.2.2.1 a).1 = 21 ∧ vp_in j (M.2.2.1 a).2 ∧ K (pc + len) lv (.int (M.2.2.2.1 a j.toNatClampNeg) :: st) M
    | _ => False) := rfl
theorem st_iastore {d : Nat} {cs : Nat → Nat × (Nat → Int32)} {C : am_C} {rt : Nat} {lim : Nat × Nat} {P : am_T} {pc len : Nat} {lv : am_L} {st : List Value} {M : am_M} {K : am_K}  : am_stp d cs C rt lim P pc len (.iastore) lv st M K = (match st with
    | .int x :: .int j :: .ref a :: st => (M.2.2.1 a).1 = 20 ∧ vp_in j (M.2.2.1 a).2 ∧ K (pc + len) lv st (am_si M a j.toNatClampNeg x)
    | _ => False) := rfl
theorem st_bastore {d : Nat} {cs : Nat → Nat × (Nat → Int32)} {C : am_C} {rt : Nat} {lim : Nat × Nat} {P : am_T} {pc len : Nat} {lv : am_L} {st : List Value} {M : am_M} {K : am_K}  : am_stp d cs C rt lim P pc len (.bastore) lv st M K = (match st with
    | .int x :: .int j :: .ref a :: st => (M.2.2.1 a).1 = 21 ∧ vp_in j (M.2.2.1 a).2 ∧ K (pc + len) lv st (am_si M a j.toNatClampNeg (vp_nar .byte x))
    | _ => False) := rfl
theorem st_aaload {d : Nat} {cs : Nat → Nat × (Nat → Int32)} {C : am_C} {rt : Nat} {lim : Nat × Nat} {P : am_T} {pc len : Nat} {lv : am_L} {st : List Value} {M : am_M} {K : am_K}  : am_stp d cs C rt lim P pc len (.aaload) lv st M K = (match st with
    | .int j :: .ref a :: st => 22 ≤ (M.2.2.1 a).1 ∧ (M.2.2.1 a).1 ≤ 25 ∧ vp_in j (M.2.2.1 a).2 ∧ ((∃ b, M.2.2.2.2 a j.toNatClampNeg = .ref b ∧ K (pc + len) lv (.ref b :: st) M) ∨ ∃ b, M.2.2.2.2 a j.toNatClampNeg = .retAddr b ∧ K (pc + len) lv (.retAddr b :: st) M)
    | _ => False) := rfl
theorem st_aastore {d : Nat} {cs : Nat → Nat × (Nat → Int32)} {C : am_C} {rt : Nat} {lim : Nat × Nat} {P : am_T} {pc len : Nat} {lv : am_L} {st : List Value} {M : am_M} {K : am_K}  : am_stp d cs C rt lim P pc len (.aastore) lv st M K = (match st with
    | .ref b :: .int j :: .ref a :: st => 22 ≤ (M.2.2.1 a).1 ∧ (M.2.2.1 a).1 < 25 ∧ vp_in j (M.2.2.1 a).2 ∧ (M.2.2.1 b).1 = am_el (M.2.2.1 a).1 ∧ K (pc + len) lv st (am_sr M a j.toNatClampNeg (.ref b))
    | .retAddr b :: .int j :: .ref a :: st => (M.2.2.1 a).1 = 25 ∧ vp_in j (M.2.2.1 a).2 ∧ b < 16 ∧ K (pc + len) lv st (am_sr M a j.toNatClampNeg (.retAddr b))
    | _ => False) := rfl
theorem st_arraylength {d : Nat} {cs : Nat → Nat × (Nat → Int32)} {C : am_C} {rt : Nat} {lim : Nat × Nat} {P : am_T} {pc len : Nat} {lv : am_L} {st : List Value} {M : am_M} {K : am_K}  : am_stp d cs C rt lim P pc len (.arraylength) lv st M K = (match st with
    | .ref a :: st => 20 ≤ (M.2.2.1 a).1 ∧ (M.2.2.1 a).1 ≤ 25 ∧ K (pc + len) lv (.int (Int32.ofNat (M.2.2.1 a).2) :: st) M
    | .retAddr c :: st => c = 17 ∧ K (pc + len) lv (.int (Int32.ofNat (cs c).1) :: st) M
    | _ => False) := rfl
theorem st_new {d : Nat} {cs : Nat → Nat × (Nat → Int32)} {C : am_C} {rt : Nat} {lim : Nat × Nat} {P : am_T} {pc len : Nat} {lv : am_L} {st : List Value} {M : am_M} {K : am_K} {k} : am_stp d cs C rt lim P pc len (.new k) lv st M K = (M.1 + 1 ≤ lim.1 ∧ M.2.1 + k % 64 ≤ lim.2 ∧ K (pc + len) lv (.ref (am_nx M.1) :: st) (am_nw M (k / 64, k % 64) (k % 64))) := rfl
theorem st_newarray {d : Nat} {cs : Nat → Nat × (Nat → Int32)} {C : am_C} {rt : Nat} {lim : Nat × Nat} {P : am_T} {pc len : Nat} {lv : am_L} {st : List Value} {M : am_M} {K : am_K} {t} : am_stp d cs C rt lim P pc len (.newarray t) lv st M K = (match st with
    | .int n :: st => ¬ n < 0 ∧ n.toNatClampNeg ≤ 65536 ∧ M.1 + 1 ≤ lim.1 ∧ M.2.1 + n.toNatClampNeg ≤ lim.2 ∧ K (pc + len) lv (.ref (am_nx M.1) :: st) (am_nw M (if t = .int then 20 else 21, n.toNatClampNeg) n.toNatClampNeg)
    | _ => False) := rfl
theorem st_anewarray {d : Nat} {cs : Nat → Nat × (Nat → Int32)} {C : am_C} {rt : Nat} {lim : Nat × Nat} {P : am_T} {pc len : Nat} {lv : am_L} {st : List Value} {M : am_M} {K : am_K} {k} : am_stp d cs C rt lim P pc len (.anewarray k) lv st M K = (match st with
    | .int n :: st => ¬ n < 0 ∧ n.toNatClampNeg ≤ 65536 ∧ M.1 + 1 ≤ lim.1 ∧ M.2.1 + n.toNatClampNeg ≤ lim.2 ∧ K (pc + len) lv (.ref (am_nx M.1) :: st) (am_nw M (k, n.toNatClampNeg) n.toNatClampNeg)
    | _ => False) := rfl
theorem st_ldc {d : Nat} {cs : Nat → Nat × (Nat → Int32)} {C : am_C} {rt : Nat} {lim : Nat × Nat} {P : am_T} {pc len : Nat} {lv : am_L} {st : List Value} {M : am_M} {K : am_K} {c} : am_stp d cs C rt lim P pc len (.ldc c) lv st M K = (K (pc + len) lv (.retAddr c :: st) M) := rfl
theorem st_getstatic {d : Nat} {cs : Nat → Nat × (Nat → Int32)} {C : am_C} {rt : Nat} {lim : Nat × Nat} {P : am_T} {pc len : Nat} {lv : am_L} {st : List Value} {M : am_M} {K : am_K} {zz} : am_stp d cs C rt lim P pc len (.getstatic zz) lv st M K = (K (pc + len) lv (.retAddr 16 :: st) M) := rfl
theorem st_invokevirtual {d : Nat} {cs : Nat → Nat × (Nat → Int32)} {C : am_C} {rt : Nat} {lim : Nat × Nat} {P : am_T} {pc len : Nat} {lv : am_L} {st : List Value} {M : am_M} {K : am_K} {k} : am_stp d cs C rt lim P pc len (.invokevirtual k) lv st M K = (k % 16 ≤ st.length ∧ (st.take (k % 16)).all (fun v => v.category == 1) = true ∧ ((st.drop (k % 16)).map fun v => v.category).sum ≤ 8 ∧ (if k / 16 % 64 = 63 then True else ∃ a, (st.take (k % 16)).getLast? = some (.ref a) ∧ (M.2.2.1 a).1 = k / 16 % 64) ∧ M.1 + (am_mc (k / 1024)).1 ≤ lim.1 ∧ M.2.1 + (am_mc (k / 1024)).2 ≤ lim.2 ∧
      C (k / 1024) (st.take (k % 16)).reverse M (fun r M1 => K (pc + len) lv (r.toList ++ st.drop (k % 16)) M1)) := rfl
theorem st_invokestatic {d : Nat} {cs : Nat → Nat × (Nat → Int32)} {C : am_C} {rt : Nat} {lim : Nat × Nat} {P : am_T} {pc len : Nat} {lv : am_L} {st : List Value} {M : am_M} {K : am_K} {zz} : am_stp d cs C rt lim P pc len (.invokestatic zz) lv st M K = (match st with
    | .int n :: .int dp :: .ref a :: .int sp :: .ref a0 :: st => (M.2.2.1 a0).1 = 20 ∧ (M.2.2.1 a).1 = 20 ∧ ¬ sp < 0 ∧ ¬ dp < 0 ∧ ¬ n < 0 ∧ sp.toNatClampNeg + n.toNatClampNeg ≤ (M.2.2.1 a0).2 ∧ dp.toNatClampNeg + n.toNatClampNeg ≤ (M.2.2.1 a).2 ∧ (st.map fun v => v.category).sum ≤ 8 ∧ K (pc + len) lv st (am_cp M a0 a sp dp n)
    | _ => False) := rfl
theorem st_invokespecial {d : Nat} {cs : Nat → Nat × (Nat → Int32)} {C : am_C} {rt : Nat} {lim : Nat × Nat} {P : am_T} {pc len : Nat} {lv : am_L} {st : List Value} {M : am_M} {K : am_K} {n} : am_stp d cs C rt lim P pc len (.invokespecial n) lv st M K = (match n, st with
    | 0, .retAddr c :: st => c < 16 ∧ 8 ≤ d ∧ (st.map fun v => v.category).sum ≤ 8 ∧ M.1 ≤ lim.1 ∧ M.2.1 ≤ lim.2 ∧ K (pc + len) lv (.int (Int32.ofNat (am_sl c)) :: st) M
    | 1, .int j :: .retAddr c :: st => c < 16 ∧ 8 ≤ d ∧ (st.map fun v => v.category).sum ≤ 8 ∧ vp_in j (am_sl c) ∧ M.1 ≤ lim.1 ∧ M.2.1 ≤ lim.2 ∧ K (pc + len) lv (.int (am_sc c j.toNatClampNeg) :: st) M
    | 2, .int y :: .int x :: st => (st.map fun v => v.category).sum ≤ 8 ∧ M.1 ≤ lim.1 ∧ M.2.1 ≤ lim.2 ∧ K (pc + len) lv (.int (if y < x then y else x) :: st) M
    | 3, .int y :: .int x :: st => (st.map fun v => v.category).sum ≤ 8 ∧ M.1 ≤ lim.1 ∧ M.2.1 ≤ lim.2 ∧ K (pc + len) lv (.int (if x < y then y else x) :: st) M
    | _, _ => False) := rfl
theorem st_ireturn {d : Nat} {cs : Nat → Nat × (Nat → Int32)} {C : am_C} {rt : Nat} {lim : Nat × Nat} {P : am_T} {pc len : Nat} {lv : am_L} {st : List Value} {M : am_M} {K : am_K}  : am_stp d cs C rt lim P pc len (.ireturn) lv st M K = (match st with | [.int v] => (rt = 1 ∨ rt = 2 ∧ (v = 0 ∨ v = 1)) ∧ M.1 = lim.1 ∧ M.2.1 = lim.2 ∧ P (some (.int v)) M | _ => False) := rfl
theorem st_lreturn {d : Nat} {cs : Nat → Nat × (Nat → Int32)} {C : am_C} {rt : Nat} {lim : Nat × Nat} {P : am_T} {pc len : Nat} {lv : am_L} {st : List Value} {M : am_M} {K : am_K}  : am_stp d cs C rt lim P pc len (.lreturn) lv st M K = (match st with | [.long v] => rt = 3 ∧ M.1 = lim.1 ∧ M.2.1 = lim.2 ∧ P (some (.long v)) M | _ => False) := rfl
theorem st_areturn {d : Nat} {cs : Nat → Nat × (Nat → Int32)} {C : am_C} {rt : Nat} {lim : Nat × Nat} {P : am_T} {pc len : Nat} {lv : am_L} {st : List Value} {M : am_M} {K : am_K}  : am_stp d cs C rt lim P pc len (.areturn) lv st M K = (match st with | [.ref v] => rt = 4 ∧ M.1 = lim.1 ∧ M.2.1 = lim.2 ∧ P (some (.ref v)) M | [.retAddr v] => rt = 4 ∧ M.1 = lim.1 ∧ M.2.1 = lim.2 ∧ P (some (.retAddr v)) M | _ => False) := rfl
theorem st_return_ {d : Nat} {cs : Nat → Nat × (Nat → Int32)} {C : am_C} {rt : Nat} {lim : Nat × Nat} {P : am_T} {pc len : Nat} {lv : am_L} {st : List Value} {M : am_M} {K : am_K}  : am_stp d cs C rt lim P pc len (.return_) lv st M K = (match st with | [] => rt = 0 ∧ M.1 = lim.1 ∧ M.2.1 = lim.2 ∧ P none M | _ => False) := rfl
theorem br_eq {x y : Int32} {a b : Prop} : am_br .eq x y a b = ((x = y → a) ∧ (¬ x = y → b)) := rfl
theorem br_ne {x y : Int32} {a b : Prop} : am_br .ne x y a b = ((¬ x = y → a) ∧ (x = y → b)) := rfl
theorem br_lt {x y : Int32} {a b : Prop} : am_br .lt x y a b = ((x < y → a) ∧ (¬ x < y → b)) := rfl
theorem br_ge {x y : Int32} {a b : Prop} : am_br .ge x y a b = ((y ≤ x → a) ∧ (¬ y ≤ x → b)) := rfl
theorem br_gt {x y : Int32} {a b : Prop} : am_br .gt x y a b = ((y < x → a) ∧ (¬ y < x → b)) := rfl
theorem br_le {x y : Int32} {a b : Prop} : am_br .le x y a b = ((x ≤ y → a) ∧ (¬ x ≤ y → b)) := rfl
theorem rt_0 : am_rt 0 = 0 := rfl
theorem rt_1 : am_rt 1 = 0 := rfl
theorem rt_2 : am_rt 2 = 0 := rfl
theorem rt_3 : am_rt 3 = 0 := rfl
theorem rt_4 : am_rt 4 = 0 := rfl
theorem rt_5 : am_rt 5 = 0 := rfl
theorem rt_6 : am_rt 6 = 0 := rfl
theorem rt_7 : am_rt 7 = 0 := rfl
theorem rt_8 : am_rt 8 = 0 := rfl
theorem rt_9 : am_rt 9 = 0 := rfl
theorem rt_16 : am_rt 16 = 0 := rfl
theorem rt_17 : am_rt 17 = 2 := rfl
theorem rt_18 : am_rt 18 = 2 := rfl
theorem rt_19 : am_rt 19 = 1 := rfl
theorem rt_20 : am_rt 20 = 1 := rfl
theorem rt_21 : am_rt 21 = 1 := rfl
theorem rt_22 : am_rt 22 = 1 := rfl
theorem rt_23 : am_rt 23 = 1 := rfl
theorem rt_24 : am_rt 24 = 1 := rfl
theorem rt_25 : am_rt 25 = 1 := rfl
theorem rt_26 : am_rt 26 = 1 := rfl
theorem rt_27 : am_rt 27 = 1 := rfl
theorem rt_28 : am_rt 28 = 1 := rfl
theorem rt_29 : am_rt 29 = 2 := rfl
theorem rt_30 : am_rt 30 = 1 := rfl
theorem rt_31 : am_rt 31 = 2 := rfl
theorem rt_32 : am_rt 32 = 0 := rfl
theorem rt_33 : am_rt 33 = 0 := rfl
theorem rt_34 : am_rt 34 = 1 := rfl
theorem rt_35 : am_rt 35 = 3 := rfl
theorem rt_36 : am_rt 36 = 1 := rfl
theorem rt_37 : am_rt 37 = 1 := rfl
theorem rt_38 : am_rt 38 = 1 := rfl
theorem rt_39 : am_rt 39 = 0 := rfl
theorem rt_40 : am_rt 40 = 1 := rfl
theorem rt_41 : am_rt 41 = 0 := rfl
theorem rt_42 : am_rt 42 = 1 := rfl
theorem rt_43 : am_rt 43 = 1 := rfl
theorem rt_44 : am_rt 44 = 1 := rfl
theorem rt_45 : am_rt 45 = 0 := rfl
theorem rt_46 : am_rt 46 = 0 := rfl
theorem rt_47 : am_rt 47 = 0 := rfl
theorem rt_48 : am_rt 48 = 0 := rfl
theorem rt_49 : am_rt 49 = 1 := rfl
theorem rt_50 : am_rt 50 = 1 := rfl
theorem rt_51 : am_rt 51 = 1 := rfl
theorem rt_52 : am_rt 52 = 1 := rfl
theorem rt_53 : am_rt 53 = 1 := rfl
theorem rt_54 : am_rt 54 = 1 := rfl
theorem rt_55 : am_rt 55 = 1 := rfl
theorem rt_56 : am_rt 56 = 1 := rfl
theorem rt_57 : am_rt 57 = 1 := rfl
theorem rt_58 : am_rt 58 = 1 := rfl
theorem rt_59 : am_rt 59 = 1 := rfl
theorem rt_60 : am_rt 60 = 1 := rfl
theorem rt_61 : am_rt 61 = 1 := rfl
theorem rt_62 : am_rt 62 = 1 := rfl
theorem rt_63 : am_rt 63 = 1 := rfl
theorem rt_64 : am_rt 64 = 1 := rfl
theorem rt_65 : am_rt 65 = 1 := rfl
theorem rt_66 : am_rt 66 = 1 := rfl
theorem rt_67 : am_rt 67 = 1 := rfl
theorem rt_68 : am_rt 68 = 0 := rfl
theorem rt_69 : am_rt 69 = 1 := rfl
theorem rt_70 : am_rt 70 = 2 := rfl
theorem rt_71 : am_rt 71 = 0 := rfl
theorem rt_72 : am_rt 72 = 2 := rfl
theorem rt_73 : am_rt 73 = 0 := rfl
theorem rt_74 : am_rt 74 = 0 := rfl
theorem rt_75 : am_rt 75 = 2 := rfl
theorem rt_76 : am_rt 76 = 2 := rfl
theorem rt_77 : am_rt 77 = 1 := rfl
theorem rt_78 : am_rt 78 = 2 := rfl
theorem rt_79 : am_rt 79 = 2 := rfl
theorem rt_80 : am_rt 80 = 2 := rfl
theorem rt_81 : am_rt 81 = 2 := rfl
theorem rt_82 : am_rt 82 = 2 := rfl
theorem rt_83 : am_rt 83 = 2 := rfl
theorem rt_84 : am_rt 84 = 2 := rfl
theorem rt_85 : am_rt 85 = 2 := rfl
theorem rt_86 : am_rt 86 = 0 := rfl
theorem rt_87 : am_rt 87 = 0 := rfl
theorem rt_88 : am_rt 88 = 0 := rfl
theorem rt_89 : am_rt 89 = 1 := rfl
theorem rt_90 : am_rt 90 = 1 := rfl
theorem rt_91 : am_rt 91 = 2 := rfl
theorem rt_92 : am_rt 92 = 4 := rfl
theorem rt_93 : am_rt 93 = 1 := rfl
theorem rt_94 : am_rt 94 = 1 := rfl
theorem rt_95 : am_rt 95 = 1 := rfl
theorem rt_96 : am_rt 96 = 1 := rfl
theorem rt_97 : am_rt 97 = 1 := rfl
theorem rt_98 : am_rt 98 = 1 := rfl
theorem rt_99 : am_rt 99 = 1 := rfl
theorem rt_100 : am_rt 100 = 1 := rfl
theorem rt_101 : am_rt 101 = 1 := rfl
theorem rt_102 : am_rt 102 = 1 := rfl
theorem rt_103 : am_rt 103 = 1 := rfl
theorem rt_104 : am_rt 104 = 1 := rfl
theorem rt_105 : am_rt 105 = 1 := rfl
theorem rt_106 : am_rt 106 = 1 := rfl
theorem rt_107 : am_rt 107 = 1 := rfl
theorem rt_108 : am_rt 108 = 1 := rfl
theorem rt_109 : am_rt 109 = 1 := rfl
theorem rt_110 : am_rt 110 = 1 := rfl
theorem rt_111 : am_rt 111 = 1 := rfl
theorem rt_112 : am_rt 112 = 1 := rfl
theorem rt_113 : am_rt 113 = 1 := rfl
theorem rt_114 : am_rt 114 = 1 := rfl
theorem rt_115 : am_rt 115 = 1 := rfl
theorem rt_116 : am_rt 116 = 1 := rfl
theorem rt_117 : am_rt 117 = 1 := rfl
theorem rt_118 : am_rt 118 = 1 := rfl
theorem rt_119 : am_rt 119 = 1 := rfl
theorem rt_120 : am_rt 120 = 1 := rfl
theorem rt_121 : am_rt 121 = 1 := rfl
theorem rt_122 : am_rt 122 = 1 := rfl
theorem rt_123 : am_rt 123 = 3 := rfl
theorem rt_124 : am_rt 124 = 1 := rfl
theorem rt_125 : am_rt 125 = 1 := rfl
theorem rt_126 : am_rt 126 = 1 := rfl
theorem rt_127 : am_rt 127 = 1 := rfl
theorem rt_128 : am_rt 128 = 1 := rfl
theorem rt_129 : am_rt 129 = 1 := rfl
theorem rt_130 : am_rt 130 = 1 := rfl
theorem rt_131 : am_rt 131 = 1 := rfl
theorem rt_132 : am_rt 132 = 1 := rfl
theorem rt_133 : am_rt 133 = 1 := rfl
theorem rt_134 : am_rt 134 = 1 := rfl
theorem rt_135 : am_rt 135 = 1 := rfl
theorem rt_136 : am_rt 136 = 1 := rfl
theorem rt_137 : am_rt 137 = 1 := rfl
theorem rt_138 : am_rt 138 = 1 := rfl
theorem rt_139 : am_rt 139 = 1 := rfl
theorem rt_140 : am_rt 140 = 1 := rfl
theorem rt_141 : am_rt 141 = 1 := rfl
theorem rt_142 : am_rt 142 = 1 := rfl
theorem rt_143 : am_rt 143 = 1 := rfl
theorem rt_144 : am_rt 144 = 1 := rfl
theorem rt_145 : am_rt 145 = 1 := rfl
theorem rt_146 : am_rt 146 = 1 := rfl
theorem rt_147 : am_rt 147 = 1 := rfl
theorem rt_148 : am_rt 148 = 2 := rfl
theorem rt_149 : am_rt 149 = 1 := rfl
theorem rt_150 : am_rt 150 = 1 := rfl
theorem rt_151 : am_rt 151 = 2 := rfl
theorem rt_152 : am_rt 152 = 1 := rfl
theorem rt_153 : am_rt 153 = 0 := rfl
theorem rt_154 : am_rt 154 = 1 := rfl
theorem rt_155 : am_rt 155 = 2 := rfl
theorem rt_156 : am_rt 156 = 1 := rfl
theorem rt_157 : am_rt 157 = 2 := rfl
theorem rt_158 : am_rt 158 = 2 := rfl
theorem rt_159 : am_rt 159 = 2 := rfl
theorem rt_160 : am_rt 160 = 1 := rfl
theorem rt_161 : am_rt 161 = 1 := rfl
theorem rt_162 : am_rt 162 = 1 := rfl
theorem rt_163 : am_rt 163 = 1 := rfl
theorem rt_164 : am_rt 164 = 1 := rfl
theorem rt_165 : am_rt 165 = 1 := rfl
theorem rt_166 : am_rt 166 = 1 := rfl
theorem rt_167 : am_rt 167 = 2 := rfl
theorem rt_168 : am_rt 168 = 1 := rfl
theorem rt_169 : am_rt 169 = 1 := rfl
theorem rt_170 : am_rt 170 = 1 := rfl
theorem rt_171 : am_rt 171 = 1 := rfl
theorem rt_172 : am_rt 172 = 1 := rfl
theorem rt_173 : am_rt 173 = 1 := rfl
theorem rt_174 : am_rt 174 = 1 := rfl
theorem rt_175 : am_rt 175 = 1 := rfl
theorem rt_176 : am_rt 176 = 2 := rfl
theorem rt_177 : am_rt 177 = 1 := rfl
theorem rt_178 : am_rt 178 = 1 := rfl
theorem rt_179 : am_rt 179 = 2 := rfl
theorem rt_180 : am_rt 180 = 1 := rfl
theorem rt_181 : am_rt 181 = 1 := rfl
theorem rt_182 : am_rt 182 = 1 := rfl
theorem rt_183 : am_rt 183 = 2 := rfl
theorem rt_184 : am_rt 184 = 1 := rfl
theorem rt_185 : am_rt 185 = 1 := rfl
theorem rt_186 : am_rt 186 = 1 := rfl
theorem rt_187 : am_rt 187 = 2 := rfl
theorem rt_188 : am_rt 188 = 2 := rfl
theorem rt_189 : am_rt 189 = 1 := rfl
theorem rt_190 : am_rt 190 = 1 := rfl
theorem rt_191 : am_rt 191 = 1 := rfl
theorem rt_192 : am_rt 192 = 0 := rfl
theorem rt_193 : am_rt 193 = 1 := rfl
theorem rt_194 : am_rt 194 = 1 := rfl
theorem rt_195 : am_rt 195 = 2 := rfl
theorem rt_196 : am_rt 196 = 1 := rfl
theorem rt_197 : am_rt 197 = 1 := rfl
theorem rt_198 : am_rt 198 = 1 := rfl
theorem rt_199 : am_rt 199 = 1 := rfl
theorem rt_200 : am_rt 200 = 1 := rfl
theorem rt_201 : am_rt 201 = 1 := rfl
theorem rt_202 : am_rt 202 = 1 := rfl
theorem rt_203 : am_rt 203 = 1 := rfl
theorem rt_204 : am_rt 204 = 1 := rfl
theorem rt_205 : am_rt 205 = 1 := rfl
theorem rt_206 : am_rt 206 = 1 := rfl
theorem rt_207 : am_rt 207 = 1 := rfl
theorem rt_208 : am_rt 208 = 1 := rfl
theorem rt_209 : am_rt 209 = 1 := rfl
theorem rt_210 : am_rt 210 = 1 := rfl
theorem rt_211 : am_rt 211 = 1 := rfl
theorem rt_212 : am_rt 212 = 1 := rfl
theorem rt_213 : am_rt 213 = 1 := rfl
theorem rt_214 : am_rt 214 = 1 := rfl
theorem rt_215 : am_rt 215 = 1 := rfl
theorem rt_216 : am_rt 216 = 1 := rfl
theorem rt_217 : am_rt 217 = 1 := rfl
theorem rt_218 : am_rt 218 = 1 := rfl
theorem rt_219 : am_rt 219 = 1 := rfl
theorem rt_220 : am_rt 220 = 1 := rfl
theorem rt_221 : am_rt 221 = 3 := rfl
theorem rt_222 : am_rt 222 = 1 := rfl
theorem rt_223 : am_rt 223 = 1 := rfl
theorem rt_224 : am_rt 224 = 1 := rfl
theorem rt_225 : am_rt 225 = 1 := rfl
theorem rt_226 : am_rt 226 = 1 := rfl
theorem rt_227 : am_rt 227 = 1 := rfl
theorem rt_228 : am_rt 228 = 1 := rfl
theorem rt_229 : am_rt 229 = 1 := rfl
theorem rt_230 : am_rt 230 = 0 := rfl
theorem rt_231 : am_rt 231 = 2 := rfl
theorem rt_232 : am_rt 232 = 0 := rfl
theorem rt_233 : am_rt 233 = 1 := rfl
theorem rt_234 : am_rt 234 = 0 := rfl
theorem rt_235 : am_rt 235 = 1 := rfl
theorem rt_236 : am_rt 236 = 2 := rfl
theorem rt_237 : am_rt 237 = 0 := rfl
theorem rt_238 : am_rt 238 = 1 := rfl
theorem rt_239 : am_rt 239 = 1 := rfl
theorem rt_240 : am_rt 240 = 2 := rfl
theorem rt_241 : am_rt 241 = 1 := rfl
theorem rt_242 : am_rt 242 = 1 := rfl
theorem rt_243 : am_rt 243 = 2 := rfl
theorem rt_244 : am_rt 244 = 1 := rfl
theorem rt_245 : am_rt 245 = 1 := rfl
theorem rt_246 : am_rt 246 = 1 := rfl
theorem rt_247 : am_rt 247 = 1 := rfl
theorem rt_248 : am_rt 248 = 1 := rfl
theorem rt_249 : am_rt 249 = 1 := rfl
theorem rt_250 : am_rt 250 = 1 := rfl
theorem rt_251 : am_rt 251 = 1 := rfl
theorem rt_252 : am_rt 252 = 1 := rfl
theorem rt_253 : am_rt 253 = 1 := rfl
theorem rt_254 : am_rt 254 = 1 := rfl
theorem rt_255 : am_rt 255 = 1 := rfl
