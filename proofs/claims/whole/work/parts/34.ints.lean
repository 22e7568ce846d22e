/-! arithmetic of small ints; literal places -/
theorem v_198_0 : vp_in (0 : Int32) 198 = True := eq_true (vp_in_iff.mpr (by decide))
theorem v_198_1 : vp_in (1 : Int32) 198 = True := eq_true (vp_in_iff.mpr (by decide))
theorem v_198_2 : vp_in (2 : Int32) 198 = True := eq_true (vp_in_iff.mpr (by decide))
theorem v_198_3 : vp_in (3 : Int32) 198 = True := eq_true (vp_in_iff.mpr (by decide))
theorem v_198_4 : vp_in (4 : Int32) 198 = True := eq_true (vp_in_iff.mpr (by decide))
theorem v_198_5 : vp_in (5 : Int32) 198 = True := eq_true (vp_in_iff.mpr (by decide))
theorem v_198_6 : vp_in (6 : Int32) 198 = True := eq_true (vp_in_iff.mpr (by decide))
theorem v_198_7 : vp_in (7 : Int32) 198 = True := eq_true (vp_in_iff.mpr (by decide))
theorem v_198_8 : vp_in (8 : Int32) 198 = True := eq_true (vp_in_iff.mpr (by decide))
theorem v_198_9 : vp_in (9 : Int32) 198 = True := eq_true (vp_in_iff.mpr (by decide))
theorem v_198_10 : vp_in (10 : Int32) 198 = True := eq_true (vp_in_iff.mpr (by decide))
theorem v_198_11 : vp_in (11 : Int32) 198 = True := eq_true (vp_in_iff.mpr (by decide))
theorem v_198_12 : vp_in (12 : Int32) 198 = True := eq_true (vp_in_iff.mpr (by decide))
theorem v_198_13 : vp_in (13 : Int32) 198 = True := eq_true (vp_in_iff.mpr (by decide))
theorem v_198_14 : vp_in (14 : Int32) 198 = True := eq_true (vp_in_iff.mpr (by decide))
theorem v_198_15 : vp_in (15 : Int32) 198 = True := eq_true (vp_in_iff.mpr (by decide))
theorem v_8_0 : vp_in (0 : Int32) 8 = True := eq_true (vp_in_iff.mpr (by decide))
theorem v_8_1 : vp_in (1 : Int32) 8 = True := eq_true (vp_in_iff.mpr (by decide))
theorem v_8_2 : vp_in (2 : Int32) 8 = True := eq_true (vp_in_iff.mpr (by decide))
theorem v_8_3 : vp_in (3 : Int32) 8 = True := eq_true (vp_in_iff.mpr (by decide))
theorem v_8_4 : vp_in (4 : Int32) 8 = True := eq_true (vp_in_iff.mpr (by decide))
theorem v_8_5 : vp_in (5 : Int32) 8 = True := eq_true (vp_in_iff.mpr (by decide))
theorem v_8_6 : vp_in (6 : Int32) 8 = True := eq_true (vp_in_iff.mpr (by decide))
theorem v_8_7 : vp_in (7 : Int32) 8 = True := eq_true (vp_in_iff.mpr (by decide))
theorem v_7_0 : vp_in (0 : Int32) 7 = True := eq_true (vp_in_iff.mpr (by decide))
theorem v_7_1 : vp_in (1 : Int32) 7 = True := eq_true (vp_in_iff.mpr (by decide))
theorem v_7_2 : vp_in (2 : Int32) 7 = True := eq_true (vp_in_iff.mpr (by decide))
theorem v_7_3 : vp_in (3 : Int32) 7 = True := eq_true (vp_in_iff.mpr (by decide))
theorem v_7_4 : vp_in (4 : Int32) 7 = True := eq_true (vp_in_iff.mpr (by decide))
theorem v_7_5 : vp_in (5 : Int32) 7 = True := eq_true (vp_in_iff.mpr (by decide))
theorem v_7_6 : vp_in (6 : Int32) 7 = True := eq_true (vp_in_iff.mpr (by decide))
theorem v_4_0 : vp_in (0 : Int32) 4 = True := eq_true (vp_in_iff.mpr (by decide))
theorem v_4_1 : vp_in (1 : Int32) 4 = True := eq_true (vp_in_iff.mpr (by decide))
theorem v_4_2 : vp_in (2 : Int32) 4 = True := eq_true (vp_in_iff.mpr (by decide))
theorem v_4_3 : vp_in (3 : Int32) 4 = True := eq_true (vp_in_iff.mpr (by decide))
theorem v_5_0 : vp_in (0 : Int32) 5 = True := eq_true (vp_in_iff.mpr (by decide))
theorem v_5_1 : vp_in (1 : Int32) 5 = True := eq_true (vp_in_iff.mpr (by decide))
theorem v_5_2 : vp_in (2 : Int32) 5 = True := eq_true (vp_in_iff.mpr (by decide))
theorem v_5_3 : vp_in (3 : Int32) 5 = True := eq_true (vp_in_iff.mpr (by decide))
theorem v_5_4 : vp_in (4 : Int32) 5 = True := eq_true (vp_in_iff.mpr (by decide))
theorem v_30_0 : vp_in (0 : Int32) 30 = True := eq_true (vp_in_iff.mpr (by decide))
theorem v_30_1 : vp_in (1 : Int32) 30 = True := eq_true (vp_in_iff.mpr (by decide))
theorem v_30_2 : vp_in (2 : Int32) 30 = True := eq_true (vp_in_iff.mpr (by decide))
theorem v_30_3 : vp_in (3 : Int32) 30 = True := eq_true (vp_in_iff.mpr (by decide))
theorem v_30_4 : vp_in (4 : Int32) 30 = True := eq_true (vp_in_iff.mpr (by decide))
theorem v_30_5 : vp_in (5 : Int32) 30 = True := eq_true (vp_in_iff.mpr (by decide))
theorem v_30_6 : vp_in (6 : Int32) 30 = True := eq_true (vp_in_iff.mpr (by decide))
theorem v_30_7 : vp_in (7 : Int32) 30 = True := eq_true (vp_in_iff.mpr (by decide))
theorem v_30_8 : vp_in (8 : Int32) 30 = True := eq_true (vp_in_iff.mpr (by decide))
theorem v_30_9 : vp_in (9 : Int32) 30 = True := eq_true (vp_in_iff.mpr (by decide))
theorem v_30_10 : vp_in (10 : Int32) 30 = True := eq_true (vp_in_iff.mpr (by decide))
theorem v_30_11 : vp_in (11 : Int32) 30 = True := eq_true (vp_in_iff.mpr (by decide))
theorem v_30_12 : vp_in (12 : Int32) 30 = True := eq_true (vp_in_iff.mpr (by decide))
theorem v_30_13 : vp_in (13 : Int32) 30 = True := eq_true (vp_in_iff.mpr (by decide))
theorem v_30_14 : vp_in (14 : Int32) 30 = True := eq_true (vp_in_iff.mpr (by decide))
theorem v_30_15 : vp_in (15 : Int32) 30 = True := eq_true (vp_in_iff.mpr (by decide))
theorem v_30_16 : vp_in (16 : Int32) 30 = True := eq_true (vp_in_iff.mpr (by decide))
theorem v_30_17 : vp_in (17 : Int32) 30 = True := eq_true (vp_in_iff.mpr (by decide))
theorem v_30_18 : vp_in (18 : Int32) 30 = True := eq_true (vp_in_iff.mpr (by decide))
theorem v_30_19 : vp_in (19 : Int32) 30 = True := eq_true (vp_in_iff.mpr (by decide))
theorem v_30_20 : vp_in (20 : Int32) 30 = True := eq_true (vp_in_iff.mpr (by decide))
theorem v_30_21 : vp_in (21 : Int32) 30 = True := eq_true (vp_in_iff.mpr (by decide))
theorem v_30_22 : vp_in (22 : Int32) 30 = True := eq_true (vp_in_iff.mpr (by decide))
theorem v_30_23 : vp_in (23 : Int32) 30 = True := eq_true (vp_in_iff.mpr (by decide))
theorem v_30_24 : vp_in (24 : Int32) 30 = True := eq_true (vp_in_iff.mpr (by decide))
theorem v_30_25 : vp_in (25 : Int32) 30 = True := eq_true (vp_in_iff.mpr (by decide))
theorem v_30_26 : vp_in (26 : Int32) 30 = True := eq_true (vp_in_iff.mpr (by decide))
theorem v_30_27 : vp_in (27 : Int32) 30 = True := eq_true (vp_in_iff.mpr (by decide))
theorem v_30_28 : vp_in (28 : Int32) 30 = True := eq_true (vp_in_iff.mpr (by decide))
theorem v_30_29 : vp_in (29 : Int32) 30 = True := eq_true (vp_in_iff.mpr (by decide))
theorem v_12_0 : vp_in (0 : Int32) 12 = True := eq_true (vp_in_iff.mpr (by decide))
theorem v_12_1 : vp_in (1 : Int32) 12 = True := eq_true (vp_in_iff.mpr (by decide))
theorem v_12_2 : vp_in (2 : Int32) 12 = True := eq_true (vp_in_iff.mpr (by decide))
theorem v_12_3 : vp_in (3 : Int32) 12 = True := eq_true (vp_in_iff.mpr (by decide))
theorem v_12_4 : vp_in (4 : Int32) 12 = True := eq_true (vp_in_iff.mpr (by decide))
theorem v_12_5 : vp_in (5 : Int32) 12 = True := eq_true (vp_in_iff.mpr (by decide))
theorem v_12_6 : vp_in (6 : Int32) 12 = True := eq_true (vp_in_iff.mpr (by decide))
theorem v_12_7 : vp_in (7 : Int32) 12 = True := eq_true (vp_in_iff.mpr (by decide))
theorem v_12_8 : vp_in (8 : Int32) 12 = True := eq_true (vp_in_iff.mpr (by decide))
theorem v_12_9 : vp_in (9 : Int32) 12 = True := eq_true (vp_in_iff.mpr (by decide))
theorem v_12_10 : vp_in (10 : Int32) 12 = True := eq_true (vp_in_iff.mpr (by decide))
theorem v_12_11 : vp_in (11 : Int32) 12 = True := eq_true (vp_in_iff.mpr (by decide))
theorem i_add {a b : Int32} (h1 : -2147483648 ≤ a.toInt + b.toInt) (h2 : a.toInt + b.toInt < 2147483648) : (a + b).toInt = a.toInt + b.toInt := by
  rw [Int32.toInt_add, Int.bmod_eq_of_le (by simp; omega) (by simp; omega)]
theorem i_sub {a b : Int32} (h1 : -2147483648 ≤ a.toInt - b.toInt) (h2 : a.toInt - b.toInt < 2147483648) : (a - b).toInt = a.toInt - b.toInt := by
  rw [Int32.toInt_sub, Int.bmod_eq_of_le (by simp; omega) (by simp; omega)]
theorem i_mul {a b : Int32} (h1 : -2147483648 ≤ a.toInt * b.toInt) (h2 : a.toInt * b.toInt < 2147483648) : (a * b).toInt = a.toInt * b.toInt := by
  rw [Int32.toInt_mul, Int.bmod_eq_of_le (by simp; omega) (by simp; omega)]
theorem ix_toInt {a : Int32} : ix a = a.toInt.toNat := rfl
theorem i_eq {a b : Int32} (h : a.toInt = b.toInt) : a = b := Int32.toInt_inj.mp h
theorem i_ofNat {n : Nat} (h : n < 2147483648) : (Int32.ofNat n).toInt = n := Int32.toInt_ofNat_of_lt h
theorem p_at {p k : Int32} (hp : vp_in p 8) (hk : vp_in k 4) : vp_in (16 + 4 * p + k) 198 ∧ ix (16 + 4 * p + k) = 16 + 4 * ix p + ix k := by
  have h1 := vp_in_iff.mp hp
  have h2 := vp_in_iff.mp hk
  have l1 : (4 : Int32).toInt = 4 := rfl
  have l2 : (16 : Int32).toInt = 16 := rfl
  have e1 : (4 * p).toInt = 4 * p.toInt := by rw [i_mul (by rw [l1]; omega) (by rw [l1]; omega), l1]
  have e2 : (16 + 4 * p).toInt = 16 + 4 * p.toInt := by rw [i_add (by rw [e1, l2]; omega) (by rw [e1, l2]; omega), e1, l2]
  have e3 : (16 + 4 * p + k).toInt = 16 + 4 * p.toInt + k.toInt := by rw [i_add (by rw [e2]; omega) (by rw [e2]; omega), e2]
  refine ⟨vp_in_iff.mpr (by omega), ?_⟩
  rw [ix_toInt, ix_toInt, ix_toInt, e3]
  omega
theorem g_at {p k : Int32} (hp : vp_in p 5) (hk : vp_in k 30) : vp_in (48 + 30 * p + k) 198 ∧ ix (48 + 30 * p + k) = 48 + 30 * ix p + ix k := by
  have h1 := vp_in_iff.mp hp
  have h2 := vp_in_iff.mp hk
  have l1 : (30 : Int32).toInt = 30 := rfl
  have l2 : (48 : Int32).toInt = 48 := rfl
  have e1 : (30 * p).toInt = 30 * p.toInt := by rw [i_mul (by rw [l1]; omega) (by rw [l1]; omega), l1]
  have e2 : (48 + 30 * p).toInt = 48 + 30 * p.toInt := by rw [i_add (by rw [e1, l2]; omega) (by rw [e1, l2]; omega), e1, l2]
  have e3 : (48 + 30 * p + k).toInt = 48 + 30 * p.toInt + k.toInt := by rw [i_add (by rw [e2]; omega) (by rw [e2]; omega), e2]
  refine ⟨vp_in_iff.mpr (by omega), ?_⟩
  rw [ix_toInt, ix_toInt, ix_toInt, e3]
  omega

theorem ix_0 : ix (0 : Int32) = 0 := rfl
theorem ix_1 : ix (1 : Int32) = 1 := rfl
theorem ix_2 : ix (2 : Int32) = 2 := rfl
theorem ix_3 : ix (3 : Int32) = 3 := rfl
theorem ix_4 : ix (4 : Int32) = 4 := rfl
theorem ix_5 : ix (5 : Int32) = 5 := rfl
theorem ix_6 : ix (6 : Int32) = 6 := rfl
theorem ix_7 : ix (7 : Int32) = 7 := rfl
theorem ix_8 : ix (8 : Int32) = 8 := rfl
theorem ix_9 : ix (9 : Int32) = 9 := rfl
theorem ix_10 : ix (10 : Int32) = 10 := rfl
theorem ix_11 : ix (11 : Int32) = 11 := rfl
theorem ix_12 : ix (12 : Int32) = 12 := rfl
theorem ix_13 : ix (13 : Int32) = 13 := rfl
theorem ix_14 : ix (14 : Int32) = 14 := rfl
theorem ix_15 : ix (15 : Int32) = 15 := rfl
theorem ix_16 : ix (16 : Int32) = 16 := rfl
theorem ix_17 : ix (17 : Int32) = 17 := rfl
theorem ix_18 : ix (18 : Int32) = 18 := rfl
theorem ix_19 : ix (19 : Int32) = 19 := rfl
theorem ix_20 : ix (20 : Int32) = 20 := rfl
theorem ix_21 : ix (21 : Int32) = 21 := rfl
theorem ix_22 : ix (22 : Int32) = 22 := rfl
theorem ix_23 : ix (23 : Int32) = 23 := rfl
theorem ix_24 : ix (24 : Int32) = 24 := rfl
theorem ix_25 : ix (25 : Int32) = 25 := rfl
theorem ix_26 : ix (26 : Int32) = 26 := rfl
theorem ix_27 : ix (27 : Int32) = 27 := rfl
theorem ix_28 : ix (28 : Int32) = 28 := rfl
theorem ix_29 : ix (29 : Int32) = 29 := rfl
theorem ix_30 : ix (30 : Int32) = 30 := rfl
theorem i_7 {k : Int32} (h : vp_in k 7) : k = 0 ∨ k = 1 ∨ k = 2 ∨ k = 3 ∨ k = 4 ∨ k = 5 ∨ k = 6 := by
  have h1 := vp_in_iff.mp h
  have h2 : k.toInt = 0 ∨ k.toInt = 1 ∨ k.toInt = 2 ∨ k.toInt = 3 ∨ k.toInt = 4 ∨ k.toInt = 5 ∨ k.toInt = 6 := by omega
  rcases h2 with e | e | e | e | e | e | e
  · exact Or.inl (i_eq e)
  · exact Or.inr (Or.inl (i_eq e))
  · exact Or.inr (Or.inr (Or.inl (i_eq e)))
  · exact Or.inr (Or.inr (Or.inr (Or.inl (i_eq e))))
  · exact Or.inr (Or.inr (Or.inr (Or.inr (Or.inl (i_eq e)))))
  · exact Or.inr (Or.inr (Or.inr (Or.inr (Or.inr (Or.inl (i_eq e))))))
  · exact Or.inr (Or.inr (Or.inr (Or.inr (Or.inr (Or.inr (i_eq e))))))
theorem o_at {k n : Int32} (h : vp_in n 13) (h0 : ¬ n = 0) (h1 : 0 ≤ k.toInt) (h2 : k.toInt ≤ 18) : vp_in (k + n - 1) 30 ∧ ix (k + n - 1) = ix k + (ix n - 1) := by
  have a1 := vp_in_iff.mp h
  have l1 : (1 : Int32).toInt = 1 := rfl
  have a2 : ¬ n.toInt = 0 := fun z => h0 (i_eq (a := n) (b := 0) z)
  have e1 : (k + n).toInt = k.toInt + n.toInt := i_add (by omega) (by omega)
  have e2 : (k + n - 1).toInt = k.toInt + n.toInt - 1 := by rw [i_sub (by rw [e1, l1]; omega) (by rw [e1, l1]; omega), e1, l1]
  refine ⟨vp_in_iff.mpr (by omega), ?_⟩
  rw [ix_toInt, ix_toInt, ix_toInt, e2]
  omega
theorem o_6 {n : Int32} (h : vp_in n 13) : n = 0 ∨ vp_in (6 + n - 1) 30 := Decidable.or_iff_not_imp_left.mpr fun e => (o_at h e (by decide) (by decide)).1
theorem o_18 {n : Int32} (h : vp_in n 13) : n = 0 ∨ vp_in (18 + n - 1) 30 := Decidable.or_iff_not_imp_left.mpr fun e => (o_at h e (by decide) (by decide)).1
theorem n_in {n k : Nat} (h : n < k) (h2 : k ≤ 1000) : vp_in (Int32.ofNat n) k := vp_in_iff.mpr (by rw [i_ofNat (by omega)]; omega)
theorem n_ix {n : Nat} (h : n < 1000) : ix (Int32.ofNat n) = n := by rw [ix_toInt, i_ofNat (by omega)]; omega
theorem n_s {n : Nat} (h : n < 1000) : Int32.ofNat n + 1 = Int32.ofNat (n + 1) := i_eq (by
  have l1 : (1 : Int32).toInt = 1 := rfl
  rw [i_add (by rw [i_ofNat (by omega), l1]; omega) (by rw [i_ofNat (by omega), l1]; omega), i_ofNat (by omega), i_ofNat (by omega), l1]
  omega)
theorem n_le {m n : Nat} (h : m < 1000) (h2 : n < 1000) : (Int32.ofNat m ≤ Int32.ofNat n) = (m ≤ n) := propext (by
  rw [Int32.le_iff_toInt_le, i_ofNat (by omega), i_ofNat (by omega)]
  omega)
theorem n_lt {m n : Nat} (h : m < 1000) (h2 : n < 1000) : (Int32.ofNat m < Int32.ofNat n) = (m < n) := propext (by
  rw [Int32.lt_iff_toInt_lt, i_ofNat (by omega), i_ofNat (by omega)]
  omega)
theorem n_of {i : Int32} {k : Nat} (h : vp_in i k) : Int32.ofNat (ix i) = i := i_eq (by
  have a1 := vp_in_iff.mp h
  have a2 := Int32.toInt_lt i
  rw [ix_toInt, i_ofNat (by omega)]
  omega)
theorem o_in {k n : Int32} (h : vp_in n 12) (h1 : 0 ≤ k.toInt) (h2 : k.toInt ≤ 18) : vp_in (k + n) 30 ∧ ix (k + n) = ix k + ix n := by
  have a1 := vp_in_iff.mp h
  have e1 : (k + n).toInt = k.toInt + n.toInt := i_add (by omega) (by omega)
  refine ⟨vp_in_iff.mpr (by omega), ?_⟩
  rw [ix_toInt, ix_toInt, ix_toInt, e1]
  omega
theorem o6_in {n : Int32} (h : vp_in n 12) : vp_in (6 + n) 30 := (o_in h (by decide) (by decide)).1
theorem o18_in {n : Int32} (h : vp_in n 12) : vp_in (18 + n) 30 := (o_in h (by decide) (by decide)).1
theorem n12 {n : Int32} (h : vp_in n 13) (h2 : ¬ 12 ≤ n) : vp_in n 12 := by
  have a1 := vp_in_iff.mp h
  have a2 := Int32.lt_iff_toInt_lt.mp (Int32.not_le.mp h2)
  have l : (12 : Int32).toInt = 12 := rfl
  exact vp_in_iff.mpr (by omega)
