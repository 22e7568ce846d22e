/-! what stands of the memory; small facts of ints -/
theorem i_10 : ((1 : Int32) = 0) = False := by decide
theorem i_01 : ((0 : Int32) = 1) = False := by decide
theorem i_m0 : ((-1 : Int32) = 0) = False := by decide
theorem u2_at {f : Nat → Nat → Int32} {c k c' k' : Nat} {x : Int32} : u2 f c k x c' k' = if c' = c ∧ k' = k then x else f c' k' := rfl
def cst (c : Nat) : Prop := c = 1 ∨ c = 28 ∨ c = 62
def gft (q : Nat) : Prop := am_sh0 q = (1, 8) ∧ am_rv0 q 0 = .ref (q + 1) ∧ am_rv0 q 1 = .ref (q + 2) ∧ am_sh0 (q + 1) = (20, 12) ∧ am_sh0 (q + 2) = (20, 12)
theorem c_facts {c : Nat} (h : cst c) : am_sh0 c = (0, 9) ∧ am_rv0 c 0 = .ref (c + 1) ∧ am_rv0 c 1 = .ref (c + 2) ∧ am_rv0 c 2 = .ref (c + 3) ∧ am_sh0 (c + 1) = (22, 8) ∧ am_sh0 (c + 2) = (23, 5) ∧ am_sh0 (c + 3) = (20, 10) ∧ (∀ p, p < 8 → am_rv0 (c + 1) p = .ref (c + 4 + p) ∧ am_sh0 (c + 4 + p) = (3, 4)) ∧ (∀ g, g < 5 → am_rv0 (c + 2) g = .ref (c + 12 + 3 * g) ∧ gft (c + 12 + 3 * g)) := by
  have h1 := am_mem_ok
  simp only [Bool.and_eq_true] at h1
  have h2 : am_isC c = true := by
    rcases h with rfl | rfl | rfl
    · exact h1.1.1.1
    · exact h1.1.1.2
    · exact h1.1.2
  simp only [am_isC, Bool.and_eq_true, decide_eq_true_eq, List.all_eq_true, List.mem_range] at h2
  obtain ⟨⟨⟨a1, a2, a3, a4, a5, a6, a7⟩, a8⟩, a9⟩ := h2
  exact ⟨a1, a2, a3, a4, a5, a6, a7, a8, fun g hg => ⟨(a9 g hg).1, (a9 g hg).2⟩⟩
theorem o_facts : am_sh0 0 = (8, 8) ∧ am_rv0 0 0 = .ref 55 ∧ am_rv0 0 1 = .ref 1 ∧ am_rv0 0 2 = .ref 28 ∧ am_rv0 0 3 = .ref 59 ∧ am_rv0 0 4 = .ref 61 ∧ am_rv0 0 5 = .ref 94 ∧ am_rv0 0 6 = .ref 95 ∧ am_sh0 55 = (2, 3) ∧ am_rv0 55 0 = .ref 1 ∧ am_rv0 55 1 = .ref 56 ∧ am_sh0 94 = (24, 4) ∧ am_sh0 95 = (20, 7) := by
  have h1 := am_mem_ok
  simp only [Bool.and_eq_true, am_isR, decide_eq_true_eq] at h1
  obtain ⟨-, ⟨⟨⟨⟨⟨⟨b1, b2⟩, -⟩, b4⟩, -⟩, -⟩, -⟩, -⟩ := h1
  exact ⟨b1.2.2.1, b1.2.2.2.1, b1.2.2.2.2.1, b1.2.2.2.2.2.1, b1.2.2.2.2.2.2.1, b1.2.2.2.2.2.2.2.1, b1.2.2.2.2.2.2.2.2.1, b1.2.2.2.2.2.2.2.2.2, b2.1, b2.2.1, b2.2.2.1, b4.1, b4.2⟩
theorem w_facts : gft 56 := by
  have h1 := am_mem_ok
  simp only [Bool.and_eq_true, am_isR, decide_eq_true_eq] at h1
  obtain ⟨-, ⟨⟨⟨⟨⟨⟨-, b2⟩, -⟩, -⟩, -⟩, -⟩, -⟩, -⟩ := h1
  exact b2.2.2.2
theorem t_facts : am_sh0 59 = (5, 2) ∧ am_rv0 59 0 = .ref 60 ∧ am_sh0 60 = (21, 120) ∧ am_sh0 61 = (6, 4) ∧ am_rv0 61 0 = .ref 62 ∧ am_rv0 61 1 = .ref 89 ∧ am_sh0 89 = (7, 5) ∧ am_rv0 89 0 = .ref 90 ∧ am_rv0 89 1 = .ref 91 ∧ am_rv0 89 2 = .ref 92 ∧ am_rv0 89 3 = .ref 93 ∧ am_sh0 90 = (20, 121) ∧ am_sh0 91 = (20, 121) ∧ am_sh0 92 = (20, 121) ∧ am_sh0 93 = (20, 121) := by
  have h1 := am_mem_ok
  simp only [Bool.and_eq_true, am_isR, decide_eq_true_eq] at h1
  obtain ⟨-, ⟨⟨⟨⟨⟨⟨-, -⟩, b3⟩, -⟩, -⟩, -⟩, -⟩, -⟩ := h1
  exact b3
def sht (q : Nat) : Prop := am_sh0 q = (4, 3) ∧ am_rv0 q 0 = .ref (q + 1) ∧ am_sh0 (q + 1) = (20, 40)
theorem h_facts {s : Nat} (h : s < 4) : am_rv0 94 s = .ref (96 + 2 * s) ∧ sht (96 + 2 * s) := by
  have h1 := am_mem_ok
  simp only [Bool.and_eq_true, am_isR, decide_eq_true_eq, List.all_eq_true, List.mem_range] at h1
  obtain ⟨-, ⟨⟨⟨⟨⟨⟨-, -⟩, -⟩, -⟩, b5⟩, -⟩, -⟩, -⟩ := h1
  exact ⟨(b5 s h).1, (b5 s h).2.1, (b5 s h).2.2.1, (b5 s h).2.2.2⟩
theorem m_facts : (am_sh0 104 = (9, 26) ∧ am_rv0 104 0 = .ref 105 ∧ am_rv0 104 1 = .ref 106 ∧ am_rv0 104 2 = .ref 107 ∧ am_rv0 104 4 = .ref 108 ∧ am_rv0 104 6 = .ref 109 ∧ am_rv0 104 9 = .ref 110 ∧ am_rv0 104 10 = .ref 111 ∧ am_rv0 104 17 = .ref 112 ∧ am_rv0 104 18 = .ref 113 ∧ am_rv0 104 22 = .ref 114 ∧ am_rv0 104 23 = .ref 115 ∧ am_rv0 104 24 = .ref 116 ∧ am_rv0 104 25 = .ref 117) ∧
    (am_sh0 105 = (20, 198) ∧ am_sh0 106 = (20, 198) ∧ am_sh0 107 = (20, 198) ∧ am_sh0 108 = (20, 8) ∧ am_sh0 109 = (20, 30) ∧ am_sh0 110 = (20, 5) ∧ am_sh0 111 = (20, 120) ∧ am_sh0 112 = (25, 7) ∧ am_sh0 113 = (20, 480) ∧ am_sh0 114 = (20, 4) ∧ am_sh0 115 = (20, 4) ∧ am_sh0 116 = (20, 160) ∧ am_sh0 117 = (20, 40)) ∧ ∀ k, k < 7 → am_rv0 112 k = .retAddr k := by
  have h1 := am_mem_ok
  simp only [Bool.and_eq_true, am_isR, decide_eq_true_eq, List.all_eq_true, List.mem_range] at h1
  obtain ⟨-, ⟨⟨⟨⟨⟨⟨-, -⟩, -⟩, -⟩, -⟩, b6⟩, b7⟩, b8⟩ := h1
  exact ⟨b6, b7, b8⟩
/-- an index -/
abbrev ix (x : Int32) : Nat := x.toNatClampNeg
theorem vi_lt {i : Int32} {n : Nat} (h : vp_in i n) : ix i < n := Nat.not_le.mp fun q => h (Or.inr q)
theorem vi_of {i m k : Int32} {n : Nat} (h0 : ¬ i < 0) (h1 : ¬ m ≤ i) (h2 : m ≤ k) (hk : k.toInt = (n : Int)) : vp_in i n := by
  refine vp_in_iff.mpr ⟨?_, ?_⟩
  · have := Int32.le_iff_toInt_le.mp (Int32.not_lt.mp h0)
    simpa using this
  · have a := Int32.lt_iff_toInt_lt.mp (Int32.not_le.mp h1)
    have b := Int32.le_iff_toInt_le.mp h2
    omega
theorem vi_1 {i k : Int32} {n : Nat} (h0 : ¬ i < 0) (h1 : ¬ k ≤ i) (hk : k.toInt = (n : Int)) : vp_in i n := vi_of h0 h1 (Int32.le_refl k) hk
