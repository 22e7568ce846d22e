/-! one instruction: from the abstract step to the machine's -/
section AMS
variable {p : Program} {l : Launch} {e : Env} {R : Room} {s : State} {m : MethodId} {args : Array Value} {below : List Frame} {meth : Method} {c : Code} {Q : State → Prop}
variable {S0 : State} {b : Nat} {cs : Nat → Nat × (Nat → Int32)} {sc : Nat → Nat} {D : va_G} {cA : Nat → ClassId} {M0 M : am_M} {cc : ByteArray} {nL o pc : Nat} {lv : am_L} {st : List Value} {x y : Int32}
def am_X (p : Program) (l : Launch) (e : Env) (R : Room) (s : State) (m : MethodId) (args : Array Value) (below : List Frame) (meth : Method) (c : Code) (Q : State → Prop) (b : Nat) (sc : Nat → Nat) (D : va_G) (cA : Nat → ClassId) (M0 : am_M) (nL : Nat) : am_K := fun pc lv st M =>
  ∀ (H : Heap) (locs : List Loc) (cells slots : Nat) (ls : Array Slot), va_P D am_cl (am_ws b sc cA M) H → va_S (am_A b) s.heap H locs → am_sh M → M.1 = M0.1 + cells → M.2.1 = M0.2.1 + slots → lv_has ls nL (am_lm b sc lv) →
    W p l e R s m args below meth c H locs cells slots Q (F0 m pc ls (st.map (am_rl b sc)))
def am_G (p : Program) (s : State) (m : MethodId) (args : Array Value) (c : Code) (S0 : State) (b : Nat) (cs : Nat → Nat × (Nat → Int32)) (sc : Nat → Nat) (D : va_G) (cA : Nat → ClassId) (M0 : am_M) (cc : ByteArray) (nL o : Nat) : Prop :=
  p.tables.exec = Jvm.exec ∧ c.code = cc ∧ c.maxLocals = nL ∧ s.vm.findClass (am_cn o) = some m.cls ∧ (∀ w ∈ am_W, w.before args s = true) ∧ am_cst S0 b cs sc D cA s ∧ (∀ q, q < b → s.heap[q]? = S0.heap[q]?) ∧ b + M0.1 = s.heap.size
abbrev am_XXo (p : Program) (l : Launch) (e : Env) (R : Room) (s : State) (m : MethodId) (args : Array Value) (below : List Frame) (meth : Method) (c : Code) (Q : State → Prop) (b : Nat) (sc : Nat → Nat) (D : va_G) (cA : Nat → ClassId) (M0 : am_M) (nL : Nat) : am_K := am_X p l e R s m args below meth c Q b sc D cA M0 nL
/-- the heap's size, which the machine's frame keeps -/
theorem am_wsz {H : Heap} {locs : List Loc} {cells slots : Nat} {g : JFrame} (k : H.size ≤ s.heap.size + cells → W p l e R s m args below meth c H locs cells slots Q g) : W p l e R s m args below meth c H locs cells slots Q g := by
  intro T hT X
  have h : T.heap.size ≤ s.heap.size + cells := X.same.2.2.1
  exact k (by rw [← hT]; exact h) T hT X
theorem am_i_iconst {n : Int} (G : am_G p s m args c S0 b cs sc D cA M0 cc nL o) (hd : decode cc pc = .ok (.iconst n, 1)) (h : (am_X p l e R s m args below meth c Q b sc D cA M0 nL) (pc + 1) lv (.int (Int32.ofInt n) :: st) M) : (am_X p l e R s m args below meth c Q b sc D cA M0 nL) pc lv st M := fun H locs cells slots ls hP hS hs hc hn hl => lv_iconst G.1 G.2.1 hd rfl (h H locs cells slots ls hP hS hs hc hn hl)
theorem am_i_bipush {n v : Int} (G : am_G p s m args c S0 b cs sc D cA M0 cc nL o) (hd : decode cc pc = .ok (.bipush n, 2)) (hv : (Int8.ofInt n).toInt32 = Int32.ofInt v) (h : (am_X p l e R s m args below meth c Q b sc D cA M0 nL) (pc + 2) lv (.int (Int32.ofInt v) :: st) M) : (am_X p l e R s m args below meth c Q b sc D cA M0 nL) pc lv st M := fun H locs cells slots ls hP hS hs hc hn hl => lv_bipush G.1 G.2.1 hd hv (h H locs cells slots ls hP hS hs hc hn hl)
theorem am_i_sipush {n v : Int} (G : am_G p s m args c S0 b cs sc D cA M0 cc nL o) (hd : decode cc pc = .ok (.sipush n, 3)) (hv : (Int16.ofInt n).toInt32 = Int32.ofInt v) (h : (am_X p l e R s m args below meth c Q b sc D cA M0 nL) (pc + 3) lv (.int (Int32.ofInt v) :: st) M) : (am_X p l e R s m args below meth c Q b sc D cA M0 nL) pc lv st M := fun H locs cells slots ls hP hS hs hc hn hl => lv_sipush G.1 G.2.1 hd hv (h H locs cells slots ls hP hS hs hc hn hl)
theorem am_i_lconst {n : Fin 2} (G : am_G p s m args c S0 b cs sc D cA M0 cc nL o) (hd : decode cc pc = .ok (.lconst n, 1)) (h : (am_X p l e R s m args below meth c Q b sc D cA M0 nL) (pc + 1) lv (.long (Int64.ofNat (n : Nat)) :: st) M) : (am_X p l e R s m args below meth c Q b sc D cA M0 nL) pc lv st M := fun H locs cells slots ls hP hS hs hc hn hl => lv_lconst G.1 G.2.1 hd rfl (h H locs cells slots ls hP hS hs hc hn hl)
theorem am_i_iload_n {k : Fin 4} {z : Int32} (G : am_G p s m args c S0 b cs sc D cA M0 cc nL o) (hd : decode cc pc = .ok (.iload_n k, 1)) (hk : am_lk k lv = some (.int z)) (h : (am_X p l e R s m args below meth c Q b sc D cA M0 nL) (pc + 1) lv (.int z :: st) M) : (am_X p l e R s m args below meth c Q b sc D cA M0 nL) pc lv st M := fun H locs cells slots ls hP hS hs hc hn hl => lv_iload_n G.1 G.2.1 hd rfl (am_lm_at hl hk) (h H locs cells slots ls hP hS hs hc hn hl)
theorem am_i_iload {k : Nat} {z : Int32} (G : am_G p s m args c S0 b cs sc D cA M0 cc nL o) (hd : decode cc pc = .ok (.iload k, 2)) (hk : am_lk k lv = some (.int z)) (h : (am_X p l e R s m args below meth c Q b sc D cA M0 nL) (pc + 2) lv (.int z :: st) M) : (am_X p l e R s m args below meth c Q b sc D cA M0 nL) pc lv st M := fun H locs cells slots ls hP hS hs hc hn hl => lv_iload G.1 G.2.1 hd (am_lm_at hl hk) (h H locs cells slots ls hP hS hs hc hn hl)
theorem am_i_lload_n {k : Fin 4} {z : Int64} (G : am_G p s m args c S0 b cs sc D cA M0 cc nL o) (hd : decode cc pc = .ok (.lload_n k, 1)) (hk : am_lk k lv = some (.long z)) (h : (am_X p l e R s m args below meth c Q b sc D cA M0 nL) (pc + 1) lv (.long z :: st) M) : (am_X p l e R s m args below meth c Q b sc D cA M0 nL) pc lv st M := fun H locs cells slots ls hP hS hs hc hn hl => lv_lload_n G.1 G.2.1 hd rfl (am_lm_at hl hk) (h H locs cells slots ls hP hS hs hc hn hl)
theorem am_i_lload {k : Nat} {z : Int64} (G : am_G p s m args c S0 b cs sc D cA M0 cc nL o) (hd : decode cc pc = .ok (.lload k, 2)) (hk : am_lk k lv = some (.long z)) (h : (am_X p l e R s m args below meth c Q b sc D cA M0 nL) (pc + 2) lv (.long z :: st) M) : (am_X p l e R s m args below meth c Q b sc D cA M0 nL) pc lv st M := fun H locs cells slots ls hP hS hs hc hn hl => lv_lload G.1 G.2.1 hd (am_lm_at hl hk) (h H locs cells slots ls hP hS hs hc hn hl)
theorem am_i_aload_n {k : Fin 4} {z : Nat} (G : am_G p s m args c S0 b cs sc D cA M0 cc nL o) (hd : decode cc pc = .ok (.aload_n k, 1)) (hk : am_lk k lv = some (.ref z)) (h : (am_X p l e R s m args below meth c Q b sc D cA M0 nL) (pc + 1) lv (.ref z :: st) M) : (am_X p l e R s m args below meth c Q b sc D cA M0 nL) pc lv st M := fun H locs cells slots ls hP hS hs hc hn hl => lv_aload_n G.1 G.2.1 hd rfl (am_lm_at hl hk) (h H locs cells slots ls hP hS hs hc hn hl)
theorem am_i_aload {k : Nat} {z : Nat} (G : am_G p s m args c S0 b cs sc D cA M0 cc nL o) (hd : decode cc pc = .ok (.aload k, 2)) (hk : am_lk k lv = some (.ref z)) (h : (am_X p l e R s m args below meth c Q b sc D cA M0 nL) (pc + 2) lv (.ref z :: st) M) : (am_X p l e R s m args below meth c Q b sc D cA M0 nL) pc lv st M := fun H locs cells slots ls hP hS hs hc hn hl => lv_aload G.1 G.2.1 hd (am_lm_at hl hk) (h H locs cells slots ls hP hS hs hc hn hl)
theorem am_i_rload_n {k : Fin 4} {z : Nat} (G : am_G p s m args c S0 b cs sc D cA M0 cc nL o) (hd : decode cc pc = .ok (.aload_n k, 1)) (hk : am_lk k lv = some (.retAddr z)) (h : (am_X p l e R s m args below meth c Q b sc D cA M0 nL) (pc + 1) lv (.retAddr z :: st) M) : (am_X p l e R s m args below meth c Q b sc D cA M0 nL) pc lv st M := fun H locs cells slots ls hP hS hs hc hn hl => lv_aload_n G.1 G.2.1 hd rfl (am_lm_at hl hk) (h H locs cells slots ls hP hS hs hc hn hl)
theorem am_i_rload {k : Nat} {z : Nat} (G : am_G p s m args c S0 b cs sc D cA M0 cc nL o) (hd : decode cc pc = .ok (.aload k, 2)) (hk : am_lk k lv = some (.retAddr z)) (h : (am_X p l e R s m args below meth c Q b sc D cA M0 nL) (pc + 2) lv (.retAddr z :: st) M) : (am_X p l e R s m args below meth c Q b sc D cA M0 nL) pc lv st M := fun H locs cells slots ls hP hS hs hc hn hl => lv_aload G.1 G.2.1 hd (am_lm_at hl hk) (h H locs cells slots ls hP hS hs hc hn hl)
theorem am_i_istore_n {k : Fin 4} {z : Int32} (G : am_G p s m args c S0 b cs sc D cA M0 cc nL o) (hd : decode cc pc = .ok (.istore_n k, 1)) (hk : (k : Nat) < nL) (h : (am_X p l e R s m args below meth c Q b sc D cA M0 nL) (pc + 1) (am_ls k (.int z) lv) st M) : (am_X p l e R s m args below meth c Q b sc D cA M0 nL) pc lv (.int z :: st) M := fun H locs cells slots ls hP hS hs hc hn hl => lv_istore_n G.1 G.2.1 hd rfl hl hk rfl (fun ls1 hl1 => h H locs cells slots ls1 hP hS hs hc hn (am_has_ls hl1))
theorem am_i_istore {k : Nat} {z : Int32} (G : am_G p s m args c S0 b cs sc D cA M0 cc nL o) (hd : decode cc pc = .ok (.istore k, 2)) (hk : k < nL) (h : (am_X p l e R s m args below meth c Q b sc D cA M0 nL) (pc + 2) (am_ls k (.int z) lv) st M) : (am_X p l e R s m args below meth c Q b sc D cA M0 nL) pc lv (.int z :: st) M := fun H locs cells slots ls hP hS hs hc hn hl => lv_istore G.1 G.2.1 hd hl hk rfl (fun ls1 hl1 => h H locs cells slots ls1 hP hS hs hc hn (am_has_ls hl1))
theorem am_i_astore_n {k : Fin 4} {z : Nat} (G : am_G p s m args c S0 b cs sc D cA M0 cc nL o) (hd : decode cc pc = .ok (.astore_n k, 1)) (hk : (k : Nat) < nL) (h : (am_X p l e R s m args below meth c Q b sc D cA M0 nL) (pc + 1) (am_ls k (.ref z) lv) st M) : (am_X p l e R s m args below meth c Q b sc D cA M0 nL) pc lv (.ref z :: st) M := fun H locs cells slots ls hP hS hs hc hn hl => lv_astore_n G.1 G.2.1 hd rfl hl hk rfl (fun ls1 hl1 => h H locs cells slots ls1 hP hS hs hc hn (am_has_ls hl1))
theorem am_i_astore {k : Nat} {z : Nat} (G : am_G p s m args c S0 b cs sc D cA M0 cc nL o) (hd : decode cc pc = .ok (.astore k, 2)) (hk : k < nL) (h : (am_X p l e R s m args below meth c Q b sc D cA M0 nL) (pc + 2) (am_ls k (.ref z) lv) st M) : (am_X p l e R s m args below meth c Q b sc D cA M0 nL) pc lv (.ref z :: st) M := fun H locs cells slots ls hP hS hs hc hn hl => lv_astore G.1 G.2.1 hd hl hk rfl (fun ls1 hl1 => h H locs cells slots ls1 hP hS hs hc hn (am_has_ls hl1))
theorem am_i_rstore_n {k : Fin 4} {z : Nat} (G : am_G p s m args c S0 b cs sc D cA M0 cc nL o) (hd : decode cc pc = .ok (.astore_n k, 1)) (hk : (k : Nat) < nL) (h : (am_X p l e R s m args below meth c Q b sc D cA M0 nL) (pc + 1) (am_ls k (.retAddr z) lv) st M) : (am_X p l e R s m args below meth c Q b sc D cA M0 nL) pc lv (.retAddr z :: st) M := fun H locs cells slots ls hP hS hs hc hn hl => lv_astore_n G.1 G.2.1 hd rfl hl hk rfl (fun ls1 hl1 => h H locs cells slots ls1 hP hS hs hc hn (am_has_ls hl1))
theorem am_i_rstore {k : Nat} {z : Nat} (G : am_G p s m args c S0 b cs sc D cA M0 cc nL o) (hd : decode cc pc = .ok (.astore k, 2)) (hk : k < nL) (h : (am_X p l e R s m args below meth c Q b sc D cA M0 nL) (pc + 2) (am_ls k (.retAddr z) lv) st M) : (am_X p l e R s m args below meth c Q b sc D cA M0 nL) pc lv (.retAddr z :: st) M := fun H locs cells slots ls hP hS hs hc hn hl => lv_astore G.1 G.2.1 hd hl hk rfl (fun ls1 hl1 => h H locs cells slots ls1 hP hS hs hc hn (am_has_ls hl1))
theorem am_i_lstore_n {k : Fin 4} {z : Int64} (G : am_G p s m args c S0 b cs sc D cA M0 cc nL o) (hd : decode cc pc = .ok (.lstore_n k, 1)) (hk : (k : Nat) + 1 < nL) (h : (am_X p l e R s m args below meth c Q b sc D cA M0 nL) (pc + 1) (am_ls2 k (.long z) lv) st M) : (am_X p l e R s m args below meth c Q b sc D cA M0 nL) pc lv (.long z :: st) M := fun H locs cells slots ls hP hS hs hc hn hl => lv_lstore_n G.1 G.2.1 hd rfl hl hk rfl (fun ls1 hl1 => h H locs cells slots ls1 hP hS hs hc hn (am_has_ls2 hl1))
theorem am_i_iinc {k : Nat} {n : Int} (G : am_G p s m args c S0 b cs sc D cA M0 cc nL o) (hd : decode cc pc = .ok (.iinc k n, 3)) (hk : am_lk k lv = some (.int x)) (hkn : k < nL) (h : (am_X p l e R s m args below meth c Q b sc D cA M0 nL) (pc + 3) (am_ls k (.int (x + Int32.ofInt n)) lv) st M) : (am_X p l e R s m args below meth c Q b sc D cA M0 nL) pc lv st M := by
  intro H locs cells slots ls hP hS hs hc hn hl
  have hm : (k, Value.int x) ∈ am_lm b sc lv := List.mem_map.mpr ⟨(k, .int x), am_lk_mem hk, rfl⟩
  obtain ⟨j, hj⟩ := List.getElem?_of_mem hm
  exact lv_iinc G.1 G.2.1 hd hl hj rfl hkn rfl (fun ls1 hl1 => h H locs cells slots ls1 hP hS hs hc hn (am_has_ls hl1))
theorem am_i_iadd (G : am_G p s m args c S0 b cs sc D cA M0 cc nL o) (hd : decode cc pc = .ok (.iadd, 1)) (h : (am_X p l e R s m args below meth c Q b sc D cA M0 nL) (pc + 1) lv (.int (x + y) :: st) M) : (am_X p l e R s m args below meth c Q b sc D cA M0 nL) pc lv (.int y :: .int x :: st) M := fun H locs cells slots ls hP hS hs hc hn hl => lv_iadd G.1 G.2.1 hd (h H locs cells slots ls hP hS hs hc hn hl)
theorem am_i_isub (G : am_G p s m args c S0 b cs sc D cA M0 cc nL o) (hd : decode cc pc = .ok (.isub, 1)) (h : (am_X p l e R s m args below meth c Q b sc D cA M0 nL) (pc + 1) lv (.int (x - y) :: st) M) : (am_X p l e R s m args below meth c Q b sc D cA M0 nL) pc lv (.int y :: .int x :: st) M := fun H locs cells slots ls hP hS hs hc hn hl => lv_isub G.1 G.2.1 hd (h H locs cells slots ls hP hS hs hc hn hl)
theorem am_i_imul (G : am_G p s m args c S0 b cs sc D cA M0 cc nL o) (hd : decode cc pc = .ok (.imul, 1)) (h : (am_X p l e R s m args below meth c Q b sc D cA M0 nL) (pc + 1) lv (.int (x * y) :: st) M) : (am_X p l e R s m args below meth c Q b sc D cA M0 nL) pc lv (.int y :: .int x :: st) M := fun H locs cells slots ls hP hS hs hc hn hl => lv_imul G.1 G.2.1 hd (h H locs cells slots ls hP hS hs hc hn hl)
theorem am_i_iand (G : am_G p s m args c S0 b cs sc D cA M0 cc nL o) (hd : decode cc pc = .ok (.iand, 1)) (h : (am_X p l e R s m args below meth c Q b sc D cA M0 nL) (pc + 1) lv (.int (x &&& y) :: st) M) : (am_X p l e R s m args below meth c Q b sc D cA M0 nL) pc lv (.int y :: .int x :: st) M := fun H locs cells slots ls hP hS hs hc hn hl => lv_iand G.1 G.2.1 hd (h H locs cells slots ls hP hS hs hc hn hl)
theorem am_i_ior (G : am_G p s m args c S0 b cs sc D cA M0 cc nL o) (hd : decode cc pc = .ok (.ior, 1)) (h : (am_X p l e R s m args below meth c Q b sc D cA M0 nL) (pc + 1) lv (.int (x ||| y) :: st) M) : (am_X p l e R s m args below meth c Q b sc D cA M0 nL) pc lv (.int y :: .int x :: st) M := fun H locs cells slots ls hP hS hs hc hn hl => lv_ior G.1 G.2.1 hd (h H locs cells slots ls hP hS hs hc hn hl)
theorem am_i_ishl (G : am_G p s m args c S0 b cs sc D cA M0 cc nL o) (hd : decode cc pc = .ok (.ishl, 1)) (h : (am_X p l e R s m args below meth c Q b sc D cA M0 nL) (pc + 1) lv (.int (x <<< (y &&& 31)) :: st) M) : (am_X p l e R s m args below meth c Q b sc D cA M0 nL) pc lv (.int y :: .int x :: st) M := fun H locs cells slots ls hP hS hs hc hn hl => lv_ishl G.1 G.2.1 hd (h H locs cells slots ls hP hS hs hc hn hl)
theorem am_i_ishr (G : am_G p s m args c S0 b cs sc D cA M0 cc nL o) (hd : decode cc pc = .ok (.ishr, 1)) (h : (am_X p l e R s m args below meth c Q b sc D cA M0 nL) (pc + 1) lv (.int (x >>> (y &&& 31)) :: st) M) : (am_X p l e R s m args below meth c Q b sc D cA M0 nL) pc lv (.int y :: .int x :: st) M := fun H locs cells slots ls hP hS hs hc hn hl => lv_ishr G.1 G.2.1 hd (h H locs cells slots ls hP hS hs hc hn hl)
theorem am_i_iushr (G : am_G p s m args c S0 b cs sc D cA M0 cc nL o) (hd : decode cc pc = .ok (.iushr, 1)) (h : (am_X p l e R s m args below meth c Q b sc D cA M0 nL) (pc + 1) lv (.int (x.toUInt32 >>> (y.toUInt32 &&& Int32.toUInt32 31)).toInt32 :: st) M) : (am_X p l e R s m args below meth c Q b sc D cA M0 nL) pc lv (.int y :: .int x :: st) M := fun H locs cells slots ls hP hS hs hc hn hl => lv_iushr G.1 G.2.1 hd rfl (h H locs cells slots ls hP hS hs hc hn hl)
theorem am_i_irem (G : am_G p s m args c S0 b cs sc D cA M0 cc nL o) (hd : decode cc pc = .ok (.irem, 1)) (hne : ¬ y = 0) (h : (am_X p l e R s m args below meth c Q b sc D cA M0 nL) (pc + 1) lv (.int (x - x / y * y) :: st) M) : (am_X p l e R s m args below meth c Q b sc D cA M0 nL) pc lv (.int y :: .int x :: st) M := fun H locs cells slots ls hP hS hs hc hn hl => lv_irem G.1 G.2.1 hd hne (h H locs cells slots ls hP hS hs hc hn hl)
theorem am_i_i2l (G : am_G p s m args c S0 b cs sc D cA M0 cc nL o) (hd : decode cc pc = .ok (.i2l, 1)) (h : (am_X p l e R s m args below meth c Q b sc D cA M0 nL) (pc + 1) lv (.long x.toInt64 :: st) M) : (am_X p l e R s m args below meth c Q b sc D cA M0 nL) pc lv (.int x :: st) M := fun H locs cells slots ls hP hS hs hc hn hl => lv_i2l G.1 G.2.1 hd rfl (h H locs cells slots ls hP hS hs hc hn hl)
theorem am_i_i2b (G : am_G p s m args c S0 b cs sc D cA M0 cc nL o) (hd : decode cc pc = .ok (.i2b, 1)) (h : (am_X p l e R s m args below meth c Q b sc D cA M0 nL) (pc + 1) lv (.int x.toInt8.toInt32 :: st) M) : (am_X p l e R s m args below meth c Q b sc D cA M0 nL) pc lv (.int x :: st) M := fun H locs cells slots ls hP hS hs hc hn hl => lv_i2b G.1 G.2.1 hd rfl (h H locs cells slots ls hP hS hs hc hn hl)
theorem am_i_i2s (G : am_G p s m args c S0 b cs sc D cA M0 cc nL o) (hd : decode cc pc = .ok (.i2s, 1)) (h : (am_X p l e R s m args below meth c Q b sc D cA M0 nL) (pc + 1) lv (.int x.toInt16.toInt32 :: st) M) : (am_X p l e R s m args below meth c Q b sc D cA M0 nL) pc lv (.int x :: st) M := fun H locs cells slots ls hP hS hs hc hn hl => lv_i2s G.1 G.2.1 hd rfl (h H locs cells slots ls hP hS hs hc hn hl)
theorem am_i_ladd {x y : Int64} (G : am_G p s m args c S0 b cs sc D cA M0 cc nL o) (hd : decode cc pc = .ok (.ladd, 1)) (h : (am_X p l e R s m args below meth c Q b sc D cA M0 nL) (pc + 1) lv (.long (x + y) :: st) M) : (am_X p l e R s m args below meth c Q b sc D cA M0 nL) pc lv (.long y :: .long x :: st) M := fun H locs cells slots ls hP hS hs hc hn hl => lv_ladd G.1 G.2.1 hd (h H locs cells slots ls hP hS hs hc hn hl)
theorem am_i_lmul {x y : Int64} (G : am_G p s m args c S0 b cs sc D cA M0 cc nL o) (hd : decode cc pc = .ok (.lmul, 1)) (h : (am_X p l e R s m args below meth c Q b sc D cA M0 nL) (pc + 1) lv (.long (x * y) :: st) M) : (am_X p l e R s m args below meth c Q b sc D cA M0 nL) pc lv (.long y :: .long x :: st) M := fun H locs cells slots ls hP hS hs hc hn hl => lv_lmul G.1 G.2.1 hd (h H locs cells slots ls hP hS hs hc hn hl)
theorem am_i_lcmp {x y : Int64} (G : am_G p s m args c S0 b cs sc D cA M0 cc nL o) (hd : decode cc pc = .ok (.lcmp, 1)) (h : (am_X p l e R s m args below meth c Q b sc D cA M0 nL) (pc + 1) lv (.int (lg_cmp x y) :: st) M) : (am_X p l e R s m args below meth c Q b sc D cA M0 nL) pc lv (.long y :: .long x :: st) M := fun H locs cells slots ls hP hS hs hc hn hl => W.lcmp G.1 G.2.1 hd (h H locs cells slots ls hP hS hs hc hn hl)
theorem am_i_dup_i (G : am_G p s m args c S0 b cs sc D cA M0 cc nL o) (hd : decode cc pc = .ok (.dup, 1)) (h : (am_X p l e R s m args below meth c Q b sc D cA M0 nL) (pc + 1) lv (.int x :: .int x :: st) M) : (am_X p l e R s m args below meth c Q b sc D cA M0 nL) pc lv (.int x :: st) M := fun H locs cells slots ls hP hS hs hc hn hl => lv_dup G.1 G.2.1 hd rfl (h H locs cells slots ls hP hS hs hc hn hl)
theorem am_i_dup_a {z : Nat} (G : am_G p s m args c S0 b cs sc D cA M0 cc nL o) (hd : decode cc pc = .ok (.dup, 1)) (h : (am_X p l e R s m args below meth c Q b sc D cA M0 nL) (pc + 1) lv (.ref z :: .ref z :: st) M) : (am_X p l e R s m args below meth c Q b sc D cA M0 nL) pc lv (.ref z :: st) M := fun H locs cells slots ls hP hS hs hc hn hl => lv_dup G.1 G.2.1 hd rfl (h H locs cells slots ls hP hS hs hc hn hl)
theorem am_i_dup2 {z : Nat} (G : am_G p s m args c S0 b cs sc D cA M0 cc nL o) (hd : decode cc pc = .ok (.dup2, 1)) (h : (am_X p l e R s m args below meth c Q b sc D cA M0 nL) (pc + 1) lv (.int x :: .ref z :: .int x :: .ref z :: st) M) : (am_X p l e R s m args below meth c Q b sc D cA M0 nL) pc lv (.int x :: .ref z :: st) M := fun H locs cells slots ls hP hS hs hc hn hl => lv_dup2_11 G.1 G.2.1 hd rfl rfl (h H locs cells slots ls hP hS hs hc hn hl)
theorem am_i_ifCond {cd : ClassFile.Cond} {off t : Int} (G : am_G p s m args c S0 b cs sc D cA M0 cc nL o) (hd : decode cc pc = .ok (.ifCond cd off, 3)) (ht : (pc : Int) + off = t) (h0 : 0 ≤ t) (h : am_br cd x 0 ((am_X p l e R s m args below meth c Q b sc D cA M0 nL) t.toNat lv st M) ((am_X p l e R s m args below meth c Q b sc D cA M0 nL) (pc + 3) lv st M)) : (am_X p l e R s m args below meth c Q b sc D cA M0 nL) pc lv (.int x :: st) M := by
  intro H locs cells slots ls hP hS hs hc hn hl
  have ht2 : (pc : Int) + off = ((t.toNat : Nat) : Int) := by omega
  cases cd
  · exact lv_if_eq G.1 G.2.1 hd ht2 (fun q => h.1 q H locs cells slots ls hP hS hs hc hn hl) (fun q => h.2 q H locs cells slots ls hP hS hs hc hn hl)
  · exact lv_if_ne G.1 G.2.1 hd ht2 (fun q => h.1 q H locs cells slots ls hP hS hs hc hn hl) (fun q => h.2 q H locs cells slots ls hP hS hs hc hn hl)
  · exact lv_if_lt G.1 G.2.1 hd ht2 (fun q => h.1 q H locs cells slots ls hP hS hs hc hn hl) (fun q => h.2 q H locs cells slots ls hP hS hs hc hn hl)
  · exact lv_if_ge G.1 G.2.1 hd ht2 (fun q => h.1 q H locs cells slots ls hP hS hs hc hn hl) (fun q => h.2 q H locs cells slots ls hP hS hs hc hn hl)
  · exact lv_if_gt G.1 G.2.1 hd ht2 (fun q => h.1 q H locs cells slots ls hP hS hs hc hn hl) (fun q => h.2 q H locs cells slots ls hP hS hs hc hn hl)
  · exact lv_if_le G.1 G.2.1 hd ht2 (fun q => h.1 q H locs cells slots ls hP hS hs hc hn hl) (fun q => h.2 q H locs cells slots ls hP hS hs hc hn hl)
theorem am_i_if_icmp {cd : ClassFile.Cond} {off t : Int} (G : am_G p s m args c S0 b cs sc D cA M0 cc nL o) (hd : decode cc pc = .ok (.if_icmp cd off, 3)) (ht : (pc : Int) + off = t) (h0 : 0 ≤ t) (h : am_br cd x y ((am_X p l e R s m args below meth c Q b sc D cA M0 nL) t.toNat lv st M) ((am_X p l e R s m args below meth c Q b sc D cA M0 nL) (pc + 3) lv st M)) : (am_X p l e R s m args below meth c Q b sc D cA M0 nL) pc lv (.int y :: .int x :: st) M := by
  intro H locs cells slots ls hP hS hs hc hn hl
  have ht2 : (pc : Int) + off = ((t.toNat : Nat) : Int) := by omega
  cases cd
  · exact lv_icmp_eq G.1 G.2.1 hd ht2 (fun q => h.1 q H locs cells slots ls hP hS hs hc hn hl) (fun q => h.2 q H locs cells slots ls hP hS hs hc hn hl)
  · exact lv_icmp_ne G.1 G.2.1 hd ht2 (fun q => h.1 q H locs cells slots ls hP hS hs hc hn hl) (fun q => h.2 q H locs cells slots ls hP hS hs hc hn hl)
  · exact lv_icmp_lt G.1 G.2.1 hd ht2 (fun q => h.1 q H locs cells slots ls hP hS hs hc hn hl) (fun q => h.2 q H locs cells slots ls hP hS hs hc hn hl)
  · exact lv_icmp_ge G.1 G.2.1 hd ht2 (fun q => h.1 q H locs cells slots ls hP hS hs hc hn hl) (fun q => h.2 q H locs cells slots ls hP hS hs hc hn hl)
  · exact lv_icmp_gt G.1 G.2.1 hd ht2 (fun q => h.1 q H locs cells slots ls hP hS hs hc hn hl) (fun q => h.2 q H locs cells slots ls hP hS hs hc hn hl)
  · exact lv_icmp_le G.1 G.2.1 hd ht2 (fun q => h.1 q H locs cells slots ls hP hS hs hc hn hl) (fun q => h.2 q H locs cells slots ls hP hS hs hc hn hl)
theorem am_i_goto {off t : Int} (G : am_G p s m args c S0 b cs sc D cA M0 cc nL o) (hd : decode cc pc = .ok (.goto off, 3)) (ht : (pc : Int) + off = t) (h0 : 0 ≤ t) (h : (am_X p l e R s m args below meth c Q b sc D cA M0 nL) t.toNat lv st M) : (am_X p l e R s m args below meth c Q b sc D cA M0 nL) pc lv st M :=
  fun H locs cells slots ls hP hS hs hc hn hl => lv_goto G.1 G.2.1 hd (show (pc : Int) + off = ((t.toNat : Nat) : Int) by omega) (h H locs cells slots ls hP hS hs hc hn hl)
theorem am_ofInt {z : Int} (h1 : -2147483648 ≤ z) (h2 : z < 2147483648) : (Int32.ofInt z).toInt = z := by
  rw [Int32.toInt_ofInt]
  have e : Int32.size = 4294967296 := rfl
  exact Int.bmod_eq_of_le (by omega) (by omega)
/-- the way that a value takes: the first pair that it is, else the default -/
theorem am_sw_at {K : Int → Prop} {d : Int} {x : Int32} : ∀ (l : List (Int × Int)), (∀ q ∈ l, -2147483648 ≤ q.1 ∧ q.1 < 2147483648) → am_sw x K d l → ∃ t, K t ∧ ((t = d ∧ ∀ q ∈ l, q.1 ≠ x.toInt) ∨ ∃ i : Nat, l[i]? = some (x.toInt, t) ∧ ∀ j : Nat, j < i → ∀ q, l[j]? = some q → q.1 ≠ x.toInt)
  | [], _, h => ⟨d, h, Or.inl ⟨rfl, fun q hq => by cases hq⟩⟩
  | q :: r, hr, h => by
    have hq := hr q List.mem_cons_self
    by_cases hx : x = Int32.ofInt q.1
    · have hx2 : x.toInt = q.1 := by rw [hx, am_ofInt hq.1 hq.2]
      exact ⟨q.2, h.1 hx, Or.inr ⟨0, by rw [hx2]; rfl, fun j hj => absurd hj (Nat.not_lt_zero j)⟩⟩
    · have hx2 : q.1 ≠ x.toInt := fun z => hx (by rw [z, Int32.ofInt_toInt])
      obtain ⟨t, k, h1 | ⟨i, h2, h3⟩⟩ := am_sw_at r (fun q hq => hr q (List.mem_cons_of_mem _ hq)) (h.2 hx)
      · refine ⟨t, k, Or.inl ⟨h1.1, fun z hz => ?_⟩⟩
        rcases List.mem_cons.mp hz with rfl | hz
        · exact hx2
        · exact h1.2 z hz
      · refine ⟨t, k, Or.inr ⟨i + 1, h2, fun j hj z hz => ?_⟩⟩
        cases j with
        | zero =>
          cases hz
          exact hx2
        | succ j => exact h3 j (by omega) z hz
theorem am_i_tableswitch {dd lo hi t : Int} {offs : Array Int} {ps : List (Int × Int)} {len : Nat} (G : am_G p s m args c S0 b cs sc D cA M0 cc nL o) (hd : decode cc pc = .ok (.tableswitch dd lo hi offs, len)) (ht : (pc : Int) + dd = t) (h0 : 0 ≤ t) (hsz : lo + offs.size = hi + 1) (h1 : -2147483648 ≤ lo) (h2 : hi < 2147483648) (hof : ∀ z ∈ offs.toList, 0 ≤ (pc : Int) + z)
    (hps : ps = offs.toList.zipIdx.map (fun q => (lo + q.2, (pc : Int) + q.1))) (h : am_sw x (fun t => (am_X p l e R s m args below meth c Q b sc D cA M0 nL) t.toNat lv st M) t ps) : (am_X p l e R s m args below meth c Q b sc D cA M0 nL) pc lv (.int x :: st) M := by
  intro H locs cells slots ls hP hS hs hc hn hl
  have hat : ∀ (i : Nat) (q : Int × Int), ps[i]? = some q → ∃ z, offs[i]? = some z ∧ q = (lo + i, (pc : Int) + z) := by
    intro i q hq
    rw [hps, List.getElem?_map] at hq
    cases hz : offs.toList.zipIdx[i]? with
    | none => rw [hz] at hq; cases hq
    | some z =>
      rw [hz] at hq
      rw [List.getElem?_zipIdx] at hz
      cases hw : offs.toList[i]? with
      | none => rw [hw] at hz; cases hz
      | some w =>
        rw [hw] at hz
        cases hz
        refine ⟨w, by simpa using hw, ?_⟩
        cases hq
        simp
  have hlen : ps.length = offs.size := by rw [hps]; simp
  have hr : ∀ q ∈ ps, -2147483648 ≤ q.1 ∧ q.1 < 2147483648 := by
    intro q hq
    obtain ⟨i, hi'⟩ := List.getElem?_of_mem hq
    obtain ⟨z, -, rfl⟩ := hat i q hi'
    have := (List.getElem?_eq_some_iff.mp hi').1
    simp only
    omega
  obtain ⟨tt, k, ⟨e1, e2⟩ | ⟨i, e1, -⟩⟩ := am_sw_at ps hr h
  · subst e1
    refine lv_tableOut G.1 G.2.1 hd ?_ (show (pc : Int) + dd = ((tt.toNat : Nat) : Int) by omega) (k H locs cells slots ls hP hS hs hc hn hl)
    by_cases q1 : x.toInt < lo
    · exact Or.inl q1
    · refine Or.inr ?_
      by_cases q2 : hi < x.toInt
      · exact q2
      · exfalso
        have hi' : (x.toInt - lo).toNat < ps.length := by rw [hlen]; omega
        obtain ⟨z, -, e⟩ := hat (x.toInt - lo).toNat _ (List.getElem?_eq_getElem hi')
        refine e2 _ (List.getElem_mem hi') ?_
        rw [e]
        simp only
        omega
  · obtain ⟨z, e3, e4⟩ := hat i _ e1
    have e5 := congrArg Prod.fst e4
    have e6 := congrArg Prod.snd e4
    simp only at e5 e6
    have hi2 : i < offs.size := (Array.getElem?_eq_some_iff.mp e3).1
    have hz : 0 ≤ (pc : Int) + z := hof z (by
      obtain ⟨hh, rfl⟩ := Array.getElem?_eq_some_iff.mp e3
      simp)
    refine lv_tableIn G.1 G.2.1 hd (by omega) (by omega) (show offs[(x.toInt - lo).toNat]? = some z by rw [show (x.toInt - lo).toNat = i by omega]; exact e3) (show (pc : Int) + z = ((tt.toNat : Nat) : Int) by omega) (k H locs cells slots ls hP hS hs hc hn hl)
theorem am_lkp {v d : Int} : ∀ (r : List (Int × Int)), ((∀ q ∈ r, q.1 ≠ v) → Op.lookupswitch.offset r d v = d) ∧ ∀ (i : Nat) (z : Int), r[i]? = some (v, z) → (∀ j : Nat, j < i → ∀ q, r[j]? = some q → q.1 ≠ v) → Op.lookupswitch.offset r d v = z
  | [] => ⟨fun _ => rfl, fun i z h => by simp at h⟩
  | q :: r => by
    obtain ⟨i1, i2⟩ := am_lkp (v := v) (d := d) r
    refine ⟨fun h => ?_, fun i z h hj => ?_⟩
    · have hq := h q List.mem_cons_self
      have e : Op.lookupswitch.offset (q :: r) d v = Op.lookupswitch.offset r d v := by
        first | (simp [Op.lookupswitch.offset, hq]; done) | (simp [Op.lookupswitch.offset, Ne.symm hq])
      rw [e]
      exact i1 (fun z hz => h z (List.mem_cons_of_mem _ hz))
    · cases i with
      | zero =>
        cases h
        simp [Op.lookupswitch.offset]
      | succ i =>
        have hq := hj 0 (by omega) q rfl
        have := i2 i z h (fun j hj' q' hq' => hj (j + 1) (by omega) q' hq')
        have e : Op.lookupswitch.offset (q :: r) d v = Op.lookupswitch.offset r d v := by
          first | (simp [Op.lookupswitch.offset, hq]; done) | (simp [Op.lookupswitch.offset, Ne.symm hq])
        rw [e]
        exact this
theorem am_i_lookupswitch {dd t : Int} {prs : Array (Int × Int)} {ps : List (Int × Int)} {len : Nat} (G : am_G p s m args c S0 b cs sc D cA M0 cc nL o) (hd : decode cc pc = .ok (.lookupswitch dd prs, len)) (ht : (pc : Int) + dd = t) (h0 : 0 ≤ t) (hof : ∀ z ∈ prs.toList, 0 ≤ (pc : Int) + z.2 ∧ -2147483648 ≤ z.1 ∧ z.1 < 2147483648) (hso : (prs.toList.zip (prs.toList.drop 1)).all (fun (a, next) => a.1 < next.1) = true)
    (hps : ps = prs.toList.map (fun q => (q.1, (pc : Int) + q.2))) (h : am_sw x (fun t => (am_X p l e R s m args below meth c Q b sc D cA M0 nL) t.toNat lv st M) t ps) : (am_X p l e R s m args below meth c Q b sc D cA M0 nL) pc lv (.int x :: st) M := by
  intro H locs cells slots ls hP hS hs hc hn hl
  have hat : ∀ (i : Nat) (q : Int × Int), ps[i]? = some q → ∃ z, prs.toList[i]? = some z ∧ q = (z.1, (pc : Int) + z.2) := by
    intro i q hq
    rw [hps, List.getElem?_map] at hq
    cases hz : prs.toList[i]? with
    | none => rw [hz] at hq; cases hq
    | some z =>
      rw [hz] at hq
      cases hq
      exact ⟨z, rfl, rfl⟩
  have hta : ∀ (i : Nat) (z : Int × Int), prs.toList[i]? = some z → ps[i]? = some (z.1, (pc : Int) + z.2) := fun i z hz => by rw [hps, List.getElem?_map, hz]; rfl
  have hr : ∀ q ∈ ps, -2147483648 ≤ q.1 ∧ q.1 < 2147483648 := by
    intro q hq
    obtain ⟨i, hi'⟩ := List.getElem?_of_mem hq
    obtain ⟨z, hz, rfl⟩ := hat i q hi'
    exact (hof z (List.mem_of_getElem? hz)).2
  obtain ⟨tt, k, ⟨e1, e2⟩ | ⟨i, e1, e2⟩⟩ := am_sw_at ps hr h
  · subst e1
    refine lv_lookup G.1 G.2.1 hd hso ((am_lkp _).1 (fun q hq => ?_)) (show (pc : Int) + dd = ((tt.toNat : Nat) : Int) by omega) (k H locs cells slots ls hP hS hs hc hn hl)
    obtain ⟨i, hi'⟩ := List.getElem?_of_mem hq
    exact e2 (q.1, (pc : Int) + q.2) (List.mem_of_getElem? (hta i q hi'))
  · obtain ⟨z, e3, e4⟩ := hat i _ e1
    have e5 := congrArg Prod.fst e4
    have e6 := congrArg Prod.snd e4
    simp only at e5 e6
    have hz := (hof z (List.mem_of_getElem? e3)).1
    refine lv_lookup G.1 G.2.1 hd hso ((am_lkp _).2 i z.2 (by rw [e3, e5]) (fun j hj q hq => ?_)) (show (pc : Int) + z.2 = ((tt.toNat : Nat) : Int) by omega) (k H locs cells slots ls hP hS hs hc hn hl)
    exact e2 j hj (q.1, (pc : Int) + q.2) (hta j q hq)
end AMS
