/-! layer 2: how it begins -/
section Init
def am_iv (x : Int32) (n : Nat) : Bool := decide (0 ≤ x.toInt ∧ x.toInt < n)
def am_isI : Bool := decide (am_f0 105 4 = 0) && am_iv (am_f0 105 3) 9 && am_iv (am_f0 105 0) 10000 && am_iv (am_f0 105 1) 21 && am_iv (am_f0 105 2) 10 &&
  (List.range 8).all (fun p => am_iv (am_f0 105 (16 + 4 * p)) 7 && am_iv (am_f0 105 (16 + 4 * p + 1)) 8 && am_iv (am_f0 105 (16 + 4 * p + 2)) 8 && am_iv (am_f0 105 (16 + 4 * p + 3)) 100 && (List.range 4).all (fun k => decide (am_f0 (1 + 4 + p) k = am_f0 105 (16 + 4 * p + k)))) &&
  decide (am_f0 1 3 = am_f0 105 3 ∧ am_f0 1 4 = am_f0 105 4 ∧ am_f0 1 5 = am_f0 105 1 ∧ am_f0 1 6 = am_f0 105 2 ∧ am_f0 1 7 = am_f0 105 0 ∧ am_f0 1 8 = am_f0 105 5) &&
  (List.range 10).all (fun i => decide (am_f0 (1 + 3) i = am_f0 105 (6 + i) ∧ am_f0 105 (6 + i) = -1)) &&
  decide (am_f0 0 7 = am_f0 104 3 ∧ am_f0 104 3 = 0 ∧ am_f0 104 5 = -1 ∧ am_f0 59 1 = am_f0 104 11 ∧ am_f0 104 11 = 0) &&
  (List.range 7).all (fun k => decide (am_f0 95 k = am_f0 108 (k + 1))) && decide (am_f0 108 0 = am_f0 95 0 + am_f0 95 1 + am_f0 95 2 + am_f0 95 3 + am_f0 95 4 + am_f0 95 5 + am_f0 95 6) &&
  (List.range 4).all (fun s => decide (am_f0 (96 + 2 * s) 1 = am_f0 114 s ∧ am_f0 (96 + 2 * s) 2 = am_f0 115 s ∧ am_f0 115 s = 0 ∧ am_f0 114 s = 0) && (List.range 40).all (fun i => decide (am_f0 (97 + 2 * s) i = am_f0 116 (40 * s + i))))
theorem am_isI_ok : am_isI = true := by decide +kernel
theorem R_f0 : R am_f0 := by
  have h := am_isI_ok
  simp only [am_isI, am_iv, Bool.and_eq_true, decide_eq_true_eq, List.all_eq_true, List.mem_range] at h
  obtain ⟨⟨⟨⟨⟨⟨⟨⟨⟨⟨⟨a4, a3⟩, a0⟩, a1⟩, a2⟩, ap⟩, ⟨c1, c2, c3, c4, c5, c6⟩⟩, aq⟩, ⟨r1, r2, r3, r4, r5⟩⟩, af⟩, ag⟩, ah⟩ := h
  refine ⟨⟨⟨vp_in_iff.mpr a3, by rw [a4]; exact vp_in_iff.mpr (by decide), vp_in_iff.mpr a0, vp_in_iff.mpr a1, vp_in_iff.mpr a2, fun p hp => ?_⟩, ⟨c1, c2, c3, c4, fun p hp k hk => (ap p hp).2 k hk⟩, c5, c6, fun i hi => ⟨(aq i hi).1, Or.inl (aq i hi).2⟩, 0, fun _ => 0, fun _ => 0, ⟨a4, by decide, fun g hg => absurd hg (Nat.not_lt_zero g)⟩, fun g hg => absurd hg (Nat.not_lt_zero g)⟩, r1, Or.inl r2, r3, ⟨fun k hk => af k hk, ag⟩, ⟨r4, by rw [r5]; exact vp_in_iff.mpr (by decide), fun i hi => ?_⟩, fun s hs => ?_⟩
  · obtain ⟨⟨⟨⟨q1, q2⟩, q3⟩, q4⟩, -⟩ := ap p hp
    exact ⟨vp_in_iff.mpr q1, vp_in_iff.mpr q2, vp_in_iff.mpr q3, vp_in_iff.mpr q4⟩
  · rw [r5] at hi
    exact absurd hi (Nat.not_lt_zero i)
  · obtain ⟨⟨q1, q2, q3, q4⟩, q5⟩ := ah s hs
    exact ⟨q1, q2, by rw [q3]; exact vp_in_iff.mpr (by decide), Or.inl q4, fun _ => q3, fun i hi => q5 i hi⟩
theorem am_m3_mk : am_m3 = mk am_f0 := by
  have h := am_mem_ok
  simp only [Bool.and_eq_true, am_isR, decide_eq_true_eq] at h
  obtain ⟨-, ⟨⟨⟨⟨⟨⟨⟨h1, h2, -⟩, -⟩, -⟩, -⟩, -⟩, -⟩, -⟩, -⟩ := h
  show am_m3 = (118, 2991, am_sh0, am_f0, am_rv0)
  have e : am_m3 = (am_m3.1, am_m3.2.1, am_m3.2.2.1, am_m3.2.2.2.1, am_m3.2.2.2.2) := rfl
  rw [e, h1, h2]
  rfl
end Init
