/-! the fixed cells of the three coasts and the walker -/
theorem k_s1 : am_sh0 1 = (0, 9) := (c_facts (c := 1) (Or.inl rfl)).1
theorem k_r1_0 : am_rv0 1 0 = .ref 2 := (c_facts (c := 1) (Or.inl rfl)).2.1
theorem k_r1_1 : am_rv0 1 1 = .ref 3 := (c_facts (c := 1) (Or.inl rfl)).2.2.1
theorem k_r1_2 : am_rv0 1 2 = .ref 4 := (c_facts (c := 1) (Or.inl rfl)).2.2.2.1
theorem k_s2 : am_sh0 2 = (22, 8) := (c_facts (c := 1) (Or.inl rfl)).2.2.2.2.1
theorem k_s3 : am_sh0 3 = (23, 5) := (c_facts (c := 1) (Or.inl rfl)).2.2.2.2.2.1
theorem k_s4 : am_sh0 4 = (20, 10) := (c_facts (c := 1) (Or.inl rfl)).2.2.2.2.2.2.1
theorem k_s28 : am_sh0 28 = (0, 9) := (c_facts (c := 28) (Or.inr (Or.inl rfl))).1
theorem k_r28_0 : am_rv0 28 0 = .ref 29 := (c_facts (c := 28) (Or.inr (Or.inl rfl))).2.1
theorem k_r28_1 : am_rv0 28 1 = .ref 30 := (c_facts (c := 28) (Or.inr (Or.inl rfl))).2.2.1
theorem k_r28_2 : am_rv0 28 2 = .ref 31 := (c_facts (c := 28) (Or.inr (Or.inl rfl))).2.2.2.1
theorem k_s29 : am_sh0 29 = (22, 8) := (c_facts (c := 28) (Or.inr (Or.inl rfl))).2.2.2.2.1
theorem k_s30 : am_sh0 30 = (23, 5) := (c_facts (c := 28) (Or.inr (Or.inl rfl))).2.2.2.2.2.1
theorem k_s31 : am_sh0 31 = (20, 10) := (c_facts (c := 28) (Or.inr (Or.inl rfl))).2.2.2.2.2.2.1
theorem k_s62 : am_sh0 62 = (0, 9) := (c_facts (c := 62) (Or.inr (Or.inr rfl))).1
theorem k_r62_0 : am_rv0 62 0 = .ref 63 := (c_facts (c := 62) (Or.inr (Or.inr rfl))).2.1
theorem k_r62_1 : am_rv0 62 1 = .ref 64 := (c_facts (c := 62) (Or.inr (Or.inr rfl))).2.2.1
theorem k_r62_2 : am_rv0 62 2 = .ref 65 := (c_facts (c := 62) (Or.inr (Or.inr rfl))).2.2.2.1
theorem k_s63 : am_sh0 63 = (22, 8) := (c_facts (c := 62) (Or.inr (Or.inr rfl))).2.2.2.2.1
theorem k_s64 : am_sh0 64 = (23, 5) := (c_facts (c := 62) (Or.inr (Or.inr rfl))).2.2.2.2.2.1
theorem k_s65 : am_sh0 65 = (20, 10) := (c_facts (c := 62) (Or.inr (Or.inr rfl))).2.2.2.2.2.2.1
theorem k_s56 : am_sh0 56 = (1, 8) := w_facts.1
theorem k_r56_0 : am_rv0 56 0 = .ref 57 := w_facts.2.1
theorem k_r56_1 : am_rv0 56 1 = .ref 58 := w_facts.2.2.1
theorem k_s57 : am_sh0 57 = (20, 12) := w_facts.2.2.2.1
theorem k_s58 : am_sh0 58 = (20, 12) := w_facts.2.2.2.2
