/-! The abstract machine: memory is cells by number; a step says what must hold for the rest. -/
/-- cells, slots, (kind, length) of a cell, its ints, its references (.ref a cell, .retAddr a constant) -/
abbrev am_M : Type := Nat × Nat × (Nat → Nat × Nat) × (Nat → Nat → Int32) × (Nat → Nat → Value)
abbrev am_T : Type := Option Value → am_M → Prop
abbrev am_C : Type := Nat → List Value → am_M → am_T → Prop
abbrev am_L : Type := List (Nat × Value)
abbrev am_K : Type := Nat → am_L → List Value → am_M → Prop
def am_lk : Nat → am_L → Option Value
  | _, [] => none
  | i, q :: l => if q.1 = i then some q.2 else am_lk i l
/-- the locals without i (and without a long that reaches into it) -/
def am_fl (i : Nat) : am_L → am_L
  | [] => []
  | q :: l => if q.1 = i then am_fl i l else if q.1 + 1 = i then (if q.2.category = 2 then am_fl i l else q :: am_fl i l) else q :: am_fl i l
def am_in (i : Nat) (v : Value) : am_L → am_L
  | [] => [(i, v)]
  | q :: l => if i < q.1 then (i, v) :: q :: l else q :: am_in i v l
def am_ls (i : Nat) (v : Value) (l : am_L) : am_L := am_in i v (am_fl i l)
def am_ls2 (i : Nat) (v : Value) (l : am_L) : am_L := am_in i v (am_fl i (am_fl (i + 1) l))
def am_si (M : am_M) (c k : Nat) (x : Int32) : am_M := (M.1, M.2.1, M.2.2.1, (fun c' k' => if c' = c ∧ k' = k then x else M.2.2.2.1 c' k'), M.2.2.2.2)
def am_sr (M : am_M) (c k : Nat) (x : Value) : am_M := (M.1, M.2.1, M.2.2.1, M.2.2.2.1, (fun c' k' => if c' = c ∧ k' = k then x else M.2.2.2.2 c' k'))
/-- the cells' names: cell c of the abstract memory is the (am_lo c)-th that was made -/
def am_lo (c : Nat) : Nat := if c = 0 then 0 else if c < 28 then c + 1 else if c < 55 then c + 4 else if c = 55 then 1 else if c < 59 then c - 27 else c
/-- the name of the n-th cell that is made -/
def am_nx (n : Nat) : Nat := if n = 0 then 0 else if n = 1 then 55 else if n < 29 then n - 1 else if n < 32 then n + 27 else if n < 59 then n - 4 else n
theorem am_lx (n : Nat) : am_lo (am_nx n) = n := by
  rcases (show n = 0 ∨ n = 1 ∨ (2 ≤ n ∧ n < 29) ∨ (29 ≤ n ∧ n < 32) ∨ (32 ≤ n ∧ n < 59) ∨ 59 ≤ n by omega) with rfl | rfl | h | h | h | h
  · rfl
  · rfl
  · have e : am_nx n = n - 1 := by rw [am_nx, if_neg (by omega), if_neg (by omega), if_pos (by omega)]
    rw [e, am_lo, if_neg (by omega), if_pos (by omega)]; omega
  · have e : am_nx n = n + 27 := by rw [am_nx, if_neg (by omega), if_neg (by omega), if_neg (by omega), if_pos (by omega)]
    rw [e, am_lo, if_neg (by omega), if_neg (by omega), if_neg (by omega), if_neg (by omega), if_pos (by omega)]; omega
  · have e : am_nx n = n - 4 := by rw [am_nx, if_neg (by omega), if_neg (by omega), if_neg (by omega), if_neg (by omega), if_pos (by omega)]
    rw [e, am_lo, if_neg (by omega), if_neg (by omega), if_pos (by omega)]; omega
  · have e : am_nx n = n := by rw [am_nx, if_neg (by omega), if_neg (by omega), if_neg (by omega), if_neg (by omega), if_neg (by omega)]
    rw [e, am_lo, if_neg (by omega), if_neg (by omega), if_neg (by omega), if_neg (by omega), if_neg (by omega)]
theorem am_xl (c : Nat) : am_nx (am_lo c) = c := by
  rcases (show c = 0 ∨ c = 55 ∨ (1 ≤ c ∧ c < 28) ∨ (28 ≤ c ∧ c < 55) ∨ (56 ≤ c ∧ c < 59) ∨ 59 ≤ c by omega) with rfl | rfl | h | h | h | h
  · rfl
  · rfl
  · have e : am_lo c = c + 1 := by rw [am_lo, if_neg (by omega), if_pos (by omega)]
    rw [e, am_nx, if_neg (by omega), if_neg (by omega), if_pos (by omega)]; omega
  · have e : am_lo c = c + 4 := by rw [am_lo, if_neg (by omega), if_neg (by omega), if_pos (by omega)]
    rw [e, am_nx, if_neg (by omega), if_neg (by omega), if_neg (by omega), if_neg (by omega), if_pos (by omega)]; omega
  · have e : am_lo c = c - 27 := by rw [am_lo, if_neg (by omega), if_neg (by omega), if_neg (by omega), if_neg (by omega), if_pos (by omega)]
    rw [e, am_nx, if_neg (by omega), if_neg (by omega), if_neg (by omega), if_pos (by omega)]; omega
  · have e : am_lo c = c := by rw [am_lo, if_neg (by omega), if_neg (by omega), if_neg (by omega), if_neg (by omega), if_neg (by omega)]
    rw [e, am_nx, if_neg (by omega), if_neg (by omega), if_neg (by omega), if_neg (by omega), if_neg (by omega)]
theorem am_nx_0 : am_nx 0 = 0 := rfl
theorem am_nx_104 : am_nx 104 = 104 := rfl
def am_nw (M : am_M) (z : Nat × Nat) (n : Nat) : am_M := (M.1 + 1, M.2.1 + n, (fun c => if c = am_nx M.1 then z else M.2.2.1 c), (fun c k => if c = am_nx M.1 then 0 else M.2.2.2.1 c k), (fun c k => if c = am_nx M.1 then .null else M.2.2.2.2 c k))
def am_cp (M : am_M) (a0 a : Nat) (sp dp n : Int32) : am_M := (M.1, M.2.1, M.2.2.1, (fun c k => if c = a then va_cpy (M.2.2.2.1 a0) (M.2.2.2.1 a) sp.toNatClampNeg dp.toNatClampNeg n.toNatClampNeg k else M.2.2.2.1 c k), M.2.2.2.2)
def am_sw (x : Int32) (K : Int → Prop) (d : Int) : List (Int × Int) → Prop
  | [] => K d
  | q :: r => (x = Int32.ofInt q.1 → K q.2) ∧ (¬ x = Int32.ofInt q.1 → am_sw x K d r)
def am_br (c : ClassFile.Cond) (x y : Int32) (a b : Prop) : Prop := match c with
  | .eq => (x = y → a) ∧ (¬ x = y → b)
  | .ne => (¬ x = y → a) ∧ (x = y → b)
  | .lt => (x < y → a) ∧ (¬ x < y → b)
  | .ge => (y ≤ x → a) ∧ (¬ y ≤ x → b)
  | .gt => (y < x → a) ∧ (¬ y < x → b)
  | .le => (x ≤ y → a) ∧ (¬ x ≤ y → b)
def am_mc (y : Nat) : Nat × Nat := if y < 16 then am_mcs.getD y (0, 0) else (0, 0)
def am_sl (c : Nat) : Nat := (am_tx.getD c "").length
def am_sc (c k : Nat) : Int32 := Int32.ofNat (((am_tx.getD c "").toList.getD k 'a').toNat)
/-- the class of a row's members: 22 Person[], 23 Gift[], 24 Sheet[] -/
def am_el (k : Nat) : Nat := if k = 22 then 3 else if k = 23 then 1 else 4
def am_stp (d : Nat) (cs : Nat → Nat × (Nat → Int32)) (C : am_C) (rt : Nat) (lim : Nat × Nat) (P : am_T) (pc len : Nat) (i : Instr) (lv : am_L) (st : List Value) (M : am_M) (K : am_K) : Prop :=
  match i with
  | .iconst n => K (pc + len) lv (.int (Int32.ofInt n) :: st) M
  | .lconst n => K (pc + len) lv (.long (Int64.ofNat (n : Nat)) :: st) M
  | .iload i => match am_lk i lv with | some (.int x) => K (pc + len) lv (.int x :: st) M | _ => False
  | .lload i => match am_lk i lv with | some (.long x) => K (pc + len) lv (.long x :: st) M | _ => False
  | .aload i => match am_lk i lv with | some (.ref x) => K (pc + len) lv (.ref x :: st) M | some (.retAddr x) => K (pc + len) lv (.retAddr x :: st) M | _ => False
  | .istore i => match st with | .int x :: st => K (pc + len) (am_ls i (.int x) lv) st M | _ => False
  | .lstore i => match st with | .long x :: st => K (pc + len) (am_ls2 i (.long x) lv) st M | _ => False
  | .astore i => match st with | .ref x :: st => K (pc + len) (am_ls i (.ref x) lv) st M | .retAddr x :: st => K (pc + len) (am_ls i (.retAddr x) lv) st M | _ => False
  | .iinc i n => match am_lk i lv with | some (.int x) => K (pc + len) (am_ls i (.int (x + Int32.ofInt n)) lv) st M | _ => False
  | .ifCond c t => match st with | .int x :: st => am_br c x 0 (K t.toNat lv st M) (K (pc + len) lv st M) | _ => False
  | .if_icmp c t => match st with | .int y :: .int x :: st => am_br c x y (K t.toNat lv st M) (K (pc + len) lv st M) | _ => False
  | .goto t => K t.toNat lv st M
  | .lookupswitch t ps => match st with | .int x :: st => am_sw x (fun t => K t.toNat lv st M) t ps.toList | _ => False
  | .iadd => match st with | .int y :: .int x :: st => K (pc + len) lv (.int (x + y) :: st) M | _ => False
  | .isub => match st with | .int y :: .int x :: st => K (pc + len) lv (.int (x - y) :: st) M | _ => False
  | .imul => match st with | .int y :: .int x :: st => K (pc + len) lv (.int (x * y) :: st) M | _ => False
  | .irem => match st with | .int y :: .int x :: st => ¬ y = 0 ∧ K (pc + len) lv (.int (x - x / y * y) :: st) M | _ => False
  | .iand => match st with | .int y :: .int x :: st => K (pc + len) lv (.int (x &&& y) :: st) M | _ => False
  | .ior => match st with | .int y :: .int x :: st => K (pc + len) lv (.int (x ||| y) :: st) M | _ => False
  | .ishl => match st with | .int y :: .int x :: st => K (pc + len) lv (.int (x <<< (y &&& 31)) :: st) M | _ => False
  | .ishr => match st with | .int y :: .int x :: st => K (pc + len) lv (.int (x >>> (y &&& 31)) :: st) M | _ => False
  | .iushr => match st with | .int y :: .int x :: st => K (pc + len) lv (.int (x.toUInt32 >>> (y.toUInt32 &&& Int32.toUInt32 31)).toInt32 :: st) M | _ => False
  | .i2l => match st with | .int x :: st => K (pc + len) lv (.long x.toInt64 :: st) M | _ => False
  | .i2b => match st with | .int x :: st => K (pc + len) lv (.int x.toInt8.toInt32 :: st) M | _ => False
  | .i2s => match st with | .int x :: st => K (pc + len) lv (.int x.toInt16.toInt32 :: st) M | _ => False
  | .ladd => match st with | .long y :: .long x :: st => K (pc + len) lv (.long (x + y) :: st) M | _ => False
  | .lmul => match st with | .long y :: .long x :: st => K (pc + len) lv (.long (x * y) :: st) M | _ => False
  | .lcmp => match st with | .long y :: .long x :: st => K (pc + len) lv (.int (lg_cmp x y) :: st) M | _ => False
  | .dup => match st with | .int x :: st => K (pc + len) lv (.int x :: .int x :: st) M | .ref x :: st => K (pc + len) lv (.ref x :: .ref x :: st) M | _ => False
  | .dup2 => match st with | .int x :: .ref a :: st => K (pc + len) lv (.int x :: .ref a :: .int x :: .ref a :: st) M | _ => False
  | .pop => match st with | .ref _ :: st => (st.map fun v => v.category).sum ≤ 8 ∧ K (pc + len) lv st M | _ => False
  | .getfield k => match st with
    | .ref a :: st => (M.2.2.1 a).1 = k / 256 ∧ (if k % 4 = 2 then ∃ b, M.2.2.2.2 a (k / 4 % 64) = .ref b ∧ K (pc + len) lv (.ref b :: st) M else K (pc + len) lv (.int (M.2.2.2.1 a (k / 4 % 64)) :: st) M)
    | _ => False
  | .putfield k => match st with
    | .int x :: .ref a :: st => (M.2.2.1 a).1 = k / 256 ∧ (if k % 4 = 2 then False else if k % 4 = 1 then (x = 0 ∨ x = 1) ∧ K (pc + len) lv st (am_si M a (k / 4 % 64) x) else K (pc + len) lv st (am_si M a (k / 4 % 64) x))
    | .ref b :: .ref a :: st => (M.2.2.1 a).1 = k / 256 ∧ (if k % 4 = 2 then K (pc + len) lv st (am_sr M a (k / 4 % 64) (.ref b)) else False)
    | _ => False
  | .iaload => match st with
    | .int j :: .ref a :: st => (M.2.2.1 a).1 = 20 ∧ vp_in j (M.2.2.1 a).2 ∧ K (pc + len) lv (.int (M.2.2.2.1 a j.toNatClampNeg) :: st) M
    | .int j :: .retAddr c :: st => 16 ≤ c ∧ c < 18 ∧ vp_in j (cs c).1 ∧ K (pc + len) lv (.int ((cs c).2 j.toNatClampNeg) :: st) M
    | _ => False
  | .baload => match st with
    | .int j :: .ref a :: st => (M.2.2.1 a).1 = 21 ∧ vp_in j (M.2.2.1 a).2 ∧ K (pc + len) lv (.int (M.2.2.2.1 a j.toNatClampNeg) :: st) M
    | _ => False
  | .iastore => match st with
    | .int x :: .int j :: .ref a :: st => (M.2.2.1 a).1 = 20 ∧ vp_in j (M.2.2.1 a).2 ∧ K (pc + len) lv st (am_si M a j.toNatClampNeg x)
    | _ => False
  | .bastore => match st with
    | .int x :: .int j :: .ref a :: st => (M.2.2.1 a).1 = 21 ∧ vp_in j (M.2.2.1 a).2 ∧ K (pc + len) lv st (am_si M a j.toNatClampNeg (vp_nar .byte x))
    | _ => False
  | .aaload => match st with
    | .int j :: .ref a :: st => 22 ≤ (M.2.2.1 a).1 ∧ (M.2.2.1 a).1 ≤ 25 ∧ vp_in j (M.2.2.1 a).2 ∧ ((∃ b, M.2.2.2.2 a j.toNatClampNeg = .ref b ∧ K (pc + len) lv (.ref b :: st) M) ∨ ∃ b, M.2.2.2.2 a j.toNatClampNeg = .retAddr b ∧ K (pc + len) lv (.retAddr b :: st) M)
    | _ => False
  | .aastore => match st with
    | .ref b :: .int j :: .ref a :: st => 22 ≤ (M.2.2.1 a).1 ∧ (M.2.2.1 a).1 < 25 ∧ vp_in j (M.2.2.1 a).2 ∧ (M.2.2.1 b).1 = am_el (M.2.2.1 a).1 ∧ K (pc + len) lv st (am_sr M a j.toNatClampNeg (.ref b))
    | .retAddr b :: .int j :: .ref a :: st => (M.2.2.1 a).1 = 25 ∧ vp_in j (M.2.2.1 a).2 ∧ b < 16 ∧ K (pc + len) lv st (am_sr M a j.toNatClampNeg (.retAddr b))
    | _ => False
  | .arraylength => match st with
    | .ref a :: st => 20 ≤ (M.2.2.1 a).1 ∧ (M.2.2.1 a).1 ≤ 25 ∧ K (pc + len) lv (.int (Int32.ofNat (M.2.2.1 a).2) :: st) M
    | .retAddr c :: st => c = 17 ∧ K (pc + len) lv (.int (Int32.ofNat (cs c).1) :: st) M
    | _ => False
  | .new k => M.1 + 1 ≤ lim.1 ∧ M.2.1 + k % 64 ≤ lim.2 ∧ K (pc + len) lv (.ref (am_nx M.1) :: st) (am_nw M (k / 64, k % 64) (k % 64))
  | .newarray t => match st with
    | .int n :: st => ¬ n < 0 ∧ n.toNatClampNeg ≤ 65536 ∧ M.1 + 1 ≤ lim.1 ∧ M.2.1 + n.toNatClampNeg ≤ lim.2 ∧ K (pc + len) lv (.ref (am_nx M.1) :: st) (am_nw M (if t = .int then 20 else 21, n.toNatClampNeg) n.toNatClampNeg)
    | _ => False
  | .anewarray k => match st with
    | .int n :: st => ¬ n < 0 ∧ n.toNatClampNeg ≤ 65536 ∧ M.1 + 1 ≤ lim.1 ∧ M.2.1 + n.toNatClampNeg ≤ lim.2 ∧ K (pc + len) lv (.ref (am_nx M.1) :: st) (am_nw M (k, n.toNatClampNeg) n.toNatClampNeg)
    | _ => False
  | .ldc c => K (pc + len) lv (.retAddr c :: st) M
  | .getstatic _ => K (pc + len) lv (.retAddr 16 :: st) M
  | .invokevirtual k => k % 16 ≤ st.length ∧ (st.take (k % 16)).all (fun v => v.category == 1) = true ∧ ((st.drop (k % 16)).map fun v => v.category).sum ≤ 8 ∧ (if k / 16 % 64 = 63 then True else ∃ a, (st.take (k % 16)).getLast? = some (.ref a) ∧ (M.2.2.1 a).1 = k / 16 % 64) ∧ M.1 + (am_mc (k / 1024)).1 ≤ lim.1 ∧ M.2.1 + (am_mc (k / 1024)).2 ≤ lim.2 ∧
      C (k / 1024) (st.take (k % 16)).reverse M (fun r M1 => K (pc + len) lv (r.toList ++ st.drop (k % 16)) M1)
  | .invokestatic _ => match st with
    | .int n :: .int dp :: .ref a :: .int sp :: .ref a0 :: st => (M.2.2.1 a0).1 = 20 ∧ (M.2.2.1 a).1 = 20 ∧ ¬ sp < 0 ∧ ¬ dp < 0 ∧ ¬ n < 0 ∧ sp.toNatClampNeg + n.toNatClampNeg ≤ (M.2.2.1 a0).2 ∧ dp.toNatClampNeg + n.toNatClampNeg ≤ (M.2.2.1 a).2 ∧ (st.map fun v => v.category).sum ≤ 8 ∧ K (pc + len) lv st (am_cp M a0 a sp dp n)
    | _ => False
  | .invokespecial n => match n, st with
    | 0, .retAddr c :: st => c < 16 ∧ 8 ≤ d ∧ (st.map fun v => v.category).sum ≤ 8 ∧ M.1 ≤ lim.1 ∧ M.2.1 ≤ lim.2 ∧ K (pc + len) lv (.int (Int32.ofNat (am_sl c)) :: st) M
    | 1, .int j :: .retAddr c :: st => c < 16 ∧ 8 ≤ d ∧ (st.map fun v => v.category).sum ≤ 8 ∧ vp_in j (am_sl c) ∧ M.1 ≤ lim.1 ∧ M.2.1 ≤ lim.2 ∧ K (pc + len) lv (.int (am_sc c j.toNatClampNeg) :: st) M
    | 2, .int y :: .int x :: st => (st.map fun v => v.category).sum ≤ 8 ∧ M.1 ≤ lim.1 ∧ M.2.1 ≤ lim.2 ∧ K (pc + len) lv (.int (if y < x then y else x) :: st) M
    | 3, .int y :: .int x :: st => (st.map fun v => v.category).sum ≤ 8 ∧ M.1 ≤ lim.1 ∧ M.2.1 ≤ lim.2 ∧ K (pc + len) lv (.int (if x < y then y else x) :: st) M
    | _, _ => False
  | .ireturn => match st with | [.int v] => (rt = 1 ∨ rt = 2 ∧ (v = 0 ∨ v = 1)) ∧ M.1 = lim.1 ∧ M.2.1 = lim.2 ∧ P (some (.int v)) M | _ => False
  | .lreturn => match st with | [.long v] => rt = 3 ∧ M.1 = lim.1 ∧ M.2.1 = lim.2 ∧ P (some (.long v)) M | _ => False
  | .areturn => match st with | [.ref v] => rt = 4 ∧ M.1 = lim.1 ∧ M.2.1 = lim.2 ∧ P (some (.ref v)) M | [.retAddr v] => rt = 4 ∧ M.1 = lim.1 ∧ M.2.1 = lim.2 ∧ P (some (.retAddr v)) M | _ => False
  | .return_ => match st with | [] => rt = 0 ∧ M.1 = lim.1 ∧ M.2.1 = lim.2 ∧ P none M | _ => False
  | _ => False
/-- what must hold at a point of method y: in every set of points that is closed under the steps -/
def am_wp (d : Nat) (cs : Nat → Nat × (Nat → Int32)) (C : am_C) (y rt : Nat) (lim : Nat × Nat) (P : am_T) : am_K := fun pc lv st M =>
  ∀ X : am_K, (∀ pc lv st M len i, (pc, len, i) ∈ am_cd y → am_stp d cs C rt lim P pc len i lv st M X → X pc lv st M) → X pc lv st M
def am_rt (y : Nat) : Nat := (am_ym y).2.1.2
def am_call (cs : Nat → Nat × (Nat → Int32)) : Nat → am_C
  | 0 => fun _ _ _ _ => False
  | d + 1 => fun y as M P => y < 256 ∧ am_wp d cs (am_call cs d) y (am_rt y) (M.1 + (am_mc y).1, M.2.1 + (am_mc y).2) P 0 (lv_args 0 as) [] M
theorem am_br_mono {c : ClassFile.Cond} {x y : Int32} {a b a' b' : Prop} (ha : a → a') (hb : b → b') (h : am_br c x y a b) : am_br c x y a' b' := by
  cases c <;> exact ⟨fun q => ha (h.1 q), fun q => hb (h.2 q)⟩
theorem am_sw_mono {x : Int32} {K K' : Int → Prop} {d : Int} (hK : ∀ t, K t → K' t) : ∀ (l : List (Int × Int)), am_sw x K d l → am_sw x K' d l
  | [], h => hK _ h
  | _ :: r, h => ⟨fun q => hK _ (h.1 q), fun q => am_sw_mono hK r (h.2 q)⟩
