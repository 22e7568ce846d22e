/-! the memory behind the constructors: kinds and references stand, the ints move -/
def am_sh0 (c : Nat) : Nat × Nat := am_m3.2.2.1 c
def am_rv0 (c k : Nat) : Value := am_m3.2.2.2.2 c k
def am_f0 (c k : Nat) : Int32 := am_m3.2.2.2.1 c k
def mk (f : Nat → Nat → Int32) : am_M := (118, 2991, am_sh0, f, am_rv0)
def u2 (f : Nat → Nat → Int32) (c k : Nat) (x : Int32) : Nat → Nat → Int32 := fun c' k' => if c' = c ∧ k' = k then x else f c' k'
theorem mk_si {f : Nat → Nat → Int32} {c k : Nat} {x : Int32} : am_si (mk f) c k x = mk (u2 f c k x) := by
  simp only [am_si, mk]
  rfl
theorem mk_f {f : Nat → Nat → Int32} {c k : Nat} : (mk f).2.2.2.1 c k = f c k := rfl
theorem mk_s {f : Nat → Nat → Int32} {c : Nat} : (mk f).2.2.1 c = am_sh0 c := rfl
theorem mk_r {f : Nat → Nat → Int32} {c k : Nat} : (mk f).2.2.2.2 c k = am_rv0 c k := rfl
theorem mk_1 {f : Nat → Nat → Int32} : (mk f).1 = 118 := rfl
theorem mk_2 {f : Nat → Nat → Int32} : (mk f).2.1 = 2991 := rfl
/-- a coast at c -/
def am_isC (c : Nat) : Bool := decide (am_sh0 c = (0, 9) ∧ am_rv0 c 0 = .ref (c + 1) ∧ am_rv0 c 1 = .ref (c + 2) ∧ am_rv0 c 2 = .ref (c + 3) ∧ am_sh0 (c + 1) = (22, 8) ∧ am_sh0 (c + 2) = (23, 5) ∧ am_sh0 (c + 3) = (20, 10)) &&
  (List.range 8).all (fun p => decide (am_rv0 (c + 1) p = .ref (c + 4 + p) ∧ am_sh0 (c + 4 + p) = (3, 4))) &&
  (List.range 5).all (fun g => decide (am_rv0 (c + 2) g = .ref (c + 12 + 3 * g) ∧ am_sh0 (c + 12 + 3 * g) = (1, 8) ∧ am_rv0 (c + 12 + 3 * g) 0 = .ref (c + 12 + 3 * g + 1) ∧ am_rv0 (c + 12 + 3 * g) 1 = .ref (c + 12 + 3 * g + 2) ∧ am_sh0 (c + 12 + 3 * g + 1) = (20, 12) ∧ am_sh0 (c + 12 + 3 * g + 2) = (20, 12)))
def am_isR : Bool := decide (am_m3.1 = 118 ∧ am_m3.2.1 = 2991 ∧ am_sh0 0 = (8, 8) ∧ am_rv0 0 0 = .ref 55 ∧ am_rv0 0 1 = .ref 1 ∧ am_rv0 0 2 = .ref 28 ∧ am_rv0 0 3 = .ref 59 ∧ am_rv0 0 4 = .ref 61 ∧ am_rv0 0 5 = .ref 94 ∧ am_rv0 0 6 = .ref 95) &&
  decide (am_sh0 55 = (2, 3) ∧ am_rv0 55 0 = .ref 1 ∧ am_rv0 55 1 = .ref 56 ∧ am_sh0 56 = (1, 8) ∧ am_rv0 56 0 = .ref 57 ∧ am_rv0 56 1 = .ref 58 ∧ am_sh0 57 = (20, 12) ∧ am_sh0 58 = (20, 12)) &&
  decide (am_sh0 59 = (5, 2) ∧ am_rv0 59 0 = .ref 60 ∧ am_sh0 60 = (21, 120) ∧ am_sh0 61 = (6, 4) ∧ am_rv0 61 0 = .ref 62 ∧ am_rv0 61 1 = .ref 89 ∧ am_sh0 89 = (7, 5) ∧ am_rv0 89 0 = .ref 90 ∧ am_rv0 89 1 = .ref 91 ∧ am_rv0 89 2 = .ref 92 ∧ am_rv0 89 3 = .ref 93 ∧ am_sh0 90 = (20, 121) ∧ am_sh0 91 = (20, 121) ∧ am_sh0 92 = (20, 121) ∧ am_sh0 93 = (20, 121)) &&
  decide (am_sh0 94 = (24, 4) ∧ am_sh0 95 = (20, 7)) &&
  (List.range 4).all (fun s => decide (am_rv0 94 s = .ref (96 + 2 * s) ∧ am_sh0 (96 + 2 * s) = (4, 3) ∧ am_rv0 (96 + 2 * s) 0 = .ref (96 + 2 * s + 1) ∧ am_sh0 (96 + 2 * s + 1) = (20, 40))) &&
  decide (am_sh0 104 = (9, 26) ∧ am_rv0 104 0 = .ref 105 ∧ am_rv0 104 1 = .ref 106 ∧ am_rv0 104 2 = .ref 107 ∧ am_rv0 104 4 = .ref 108 ∧ am_rv0 104 6 = .ref 109 ∧ am_rv0 104 9 = .ref 110 ∧ am_rv0 104 10 = .ref 111 ∧ am_rv0 104 17 = .ref 112 ∧ am_rv0 104 18 = .ref 113 ∧ am_rv0 104 22 = .ref 114 ∧ am_rv0 104 23 = .ref 115 ∧ am_rv0 104 24 = .ref 116 ∧ am_rv0 104 25 = .ref 117) &&
  decide (am_sh0 105 = (20, 198) ∧ am_sh0 106 = (20, 198) ∧ am_sh0 107 = (20, 198) ∧ am_sh0 108 = (20, 8) ∧ am_sh0 109 = (20, 30) ∧ am_sh0 110 = (20, 5) ∧ am_sh0 111 = (20, 120) ∧ am_sh0 112 = (25, 7) ∧ am_sh0 113 = (20, 480) ∧ am_sh0 114 = (20, 4) ∧ am_sh0 115 = (20, 4) ∧ am_sh0 116 = (20, 160) ∧ am_sh0 117 = (20, 40)) &&
  (List.range 7).all (fun k => decide (am_rv0 112 k = .retAddr k))
theorem am_mem_ok : (am_isC 1 && am_isC 28 && am_isC 62 && am_isR) = true := by decide +kernel
