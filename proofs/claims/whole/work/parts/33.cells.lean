/-! the fixed cells, a row each -/
theorem k_s0 : am_sh0 0 = (8, 8) := by
  obtain ⟨z0, z1, z2, z3, z4, z5, z6, z7, z8, z9, z10, z11, z12⟩ := o_facts
  exact z0
theorem k_r0_0 : am_rv0 0 0 = .ref 55 := by
  obtain ⟨z0, z1, z2, z3, z4, z5, z6, z7, z8, z9, z10, z11, z12⟩ := o_facts
  exact z1
theorem k_r0_1 : am_rv0 0 1 = .ref 1 := by
  obtain ⟨z0, z1, z2, z3, z4, z5, z6, z7, z8, z9, z10, z11, z12⟩ := o_facts
  exact z2
theorem k_r0_2 : am_rv0 0 2 = .ref 28 := by
  obtain ⟨z0, z1, z2, z3, z4, z5, z6, z7, z8, z9, z10, z11, z12⟩ := o_facts
  exact z3
theorem k_r0_3 : am_rv0 0 3 = .ref 59 := by
  obtain ⟨z0, z1, z2, z3, z4, z5, z6, z7, z8, z9, z10, z11, z12⟩ := o_facts
  exact z4
theorem k_r0_4 : am_rv0 0 4 = .ref 61 := by
  obtain ⟨z0, z1, z2, z3, z4, z5, z6, z7, z8, z9, z10, z11, z12⟩ := o_facts
  exact z5
theorem k_r0_5 : am_rv0 0 5 = .ref 94 := by
  obtain ⟨z0, z1, z2, z3, z4, z5, z6, z7, z8, z9, z10, z11, z12⟩ := o_facts
  exact z6
theorem k_r0_6 : am_rv0 0 6 = .ref 95 := by
  obtain ⟨z0, z1, z2, z3, z4, z5, z6, z7, z8, z9, z10, z11, z12⟩ := o_facts
  exact z7
theorem k_s55 : am_sh0 55 = (2, 3) := by
  obtain ⟨z0, z1, z2, z3, z4, z5, z6, z7, z8, z9, z10, z11, z12⟩ := o_facts
  exact z8
theorem k_r55_0 : am_rv0 55 0 = .ref 1 := by
  obtain ⟨z0, z1, z2, z3, z4, z5, z6, z7, z8, z9, z10, z11, z12⟩ := o_facts
  exact z9
theorem k_r55_1 : am_rv0 55 1 = .ref 56 := by
  obtain ⟨z0, z1, z2, z3, z4, z5, z6, z7, z8, z9, z10, z11, z12⟩ := o_facts
  exact z10
theorem k_s94 : am_sh0 94 = (24, 4) := by
  obtain ⟨z0, z1, z2, z3, z4, z5, z6, z7, z8, z9, z10, z11, z12⟩ := o_facts
  exact z11
theorem k_s95 : am_sh0 95 = (20, 7) := by
  obtain ⟨z0, z1, z2, z3, z4, z5, z6, z7, z8, z9, z10, z11, z12⟩ := o_facts
  exact z12
theorem k_s59 : am_sh0 59 = (5, 2) := by
  obtain ⟨z0, z1, z2, z3, z4, z5, z6, z7, z8, z9, z10, z11, z12, z13, z14⟩ := t_facts
  exact z0
theorem k_r59_0 : am_rv0 59 0 = .ref 60 := by
  obtain ⟨z0, z1, z2, z3, z4, z5, z6, z7, z8, z9, z10, z11, z12, z13, z14⟩ := t_facts
  exact z1
theorem k_s60 : am_sh0 60 = (21, 120) := by
  obtain ⟨z0, z1, z2, z3, z4, z5, z6, z7, z8, z9, z10, z11, z12, z13, z14⟩ := t_facts
  exact z2
theorem k_s61 : am_sh0 61 = (6, 4) := by
  obtain ⟨z0, z1, z2, z3, z4, z5, z6, z7, z8, z9, z10, z11, z12, z13, z14⟩ := t_facts
  exact z3
theorem k_r61_0 : am_rv0 61 0 = .ref 62 := by
  obtain ⟨z0, z1, z2, z3, z4, z5, z6, z7, z8, z9, z10, z11, z12, z13, z14⟩ := t_facts
  exact z4
theorem k_r61_1 : am_rv0 61 1 = .ref 89 := by
  obtain ⟨z0, z1, z2, z3, z4, z5, z6, z7, z8, z9, z10, z11, z12, z13, z14⟩ := t_facts
  exact z5
theorem k_s89 : am_sh0 89 = (7, 5) := by
  obtain ⟨z0, z1, z2, z3, z4, z5, z6, z7, z8, z9, z10, z11, z12, z13, z14⟩ := t_facts
  exact z6
theorem k_r89_0 : am_rv0 89 0 = .ref 90 := by
  obtain ⟨z0, z1, z2, z3, z4, z5, z6, z7, z8, z9, z10, z11, z12, z13, z14⟩ := t_facts
  exact z7
theorem k_r89_1 : am_rv0 89 1 = .ref 91 := by
  obtain ⟨z0, z1, z2, z3, z4, z5, z6, z7, z8, z9, z10, z11, z12, z13, z14⟩ := t_facts
  exact z8
theorem k_r89_2 : am_rv0 89 2 = .ref 92 := by
  obtain ⟨z0, z1, z2, z3, z4, z5, z6, z7, z8, z9, z10, z11, z12, z13, z14⟩ := t_facts
  exact z9
theorem k_r89_3 : am_rv0 89 3 = .ref 93 := by
  obtain ⟨z0, z1, z2, z3, z4, z5, z6, z7, z8, z9, z10, z11, z12, z13, z14⟩ := t_facts
  exact z10
theorem k_s90 : am_sh0 90 = (20, 121) := by
  obtain ⟨z0, z1, z2, z3, z4, z5, z6, z7, z8, z9, z10, z11, z12, z13, z14⟩ := t_facts
  exact z11
theorem k_s91 : am_sh0 91 = (20, 121) := by
  obtain ⟨z0, z1, z2, z3, z4, z5, z6, z7, z8, z9, z10, z11, z12, z13, z14⟩ := t_facts
  exact z12
theorem k_s92 : am_sh0 92 = (20, 121) := by
  obtain ⟨z0, z1, z2, z3, z4, z5, z6, z7, z8, z9, z10, z11, z12, z13, z14⟩ := t_facts
  exact z13
theorem k_s93 : am_sh0 93 = (20, 121) := by
  obtain ⟨z0, z1, z2, z3, z4, z5, z6, z7, z8, z9, z10, z11, z12, z13, z14⟩ := t_facts
  exact z14
theorem k_s104 : am_sh0 104 = (9, 26) := by
  obtain ⟨⟨z0, z1, z2, z3, z4, z5, z6, z7, z8, z9, z10, z11, z12, z13⟩, -⟩ := m_facts
  exact z0
theorem k_r104_0 : am_rv0 104 0 = .ref 105 := by
  obtain ⟨⟨z0, z1, z2, z3, z4, z5, z6, z7, z8, z9, z10, z11, z12, z13⟩, -⟩ := m_facts
  exact z1
theorem k_r104_1 : am_rv0 104 1 = .ref 106 := by
  obtain ⟨⟨z0, z1, z2, z3, z4, z5, z6, z7, z8, z9, z10, z11, z12, z13⟩, -⟩ := m_facts
  exact z2
theorem k_r104_2 : am_rv0 104 2 = .ref 107 := by
  obtain ⟨⟨z0, z1, z2, z3, z4, z5, z6, z7, z8, z9, z10, z11, z12, z13⟩, -⟩ := m_facts
  exact z3
theorem k_r104_4 : am_rv0 104 4 = .ref 108 := by
  obtain ⟨⟨z0, z1, z2, z3, z4, z5, z6, z7, z8, z9, z10, z11, z12, z13⟩, -⟩ := m_facts
  exact z4
theorem k_r104_6 : am_rv0 104 6 = .ref 109 := by
  obtain ⟨⟨z0, z1, z2, z3, z4, z5, z6, z7, z8, z9, z10, z11, z12, z13⟩, -⟩ := m_facts
  exact z5
theorem k_r104_9 : am_rv0 104 9 = .ref 110 := by
  obtain ⟨⟨z0, z1, z2, z3, z4, z5, z6, z7, z8, z9, z10, z11, z12, z13⟩, -⟩ := m_facts
  exact z6
theorem k_r104_10 : am_rv0 104 10 = .ref 111 := by
  obtain ⟨⟨z0, z1, z2, z3, z4, z5, z6, z7, z8, z9, z10, z11, z12, z13⟩, -⟩ := m_facts
  exact z7
theorem k_r104_17 : am_rv0 104 17 = .ref 112 := by
  obtain ⟨⟨z0, z1, z2, z3, z4, z5, z6, z7, z8, z9, z10, z11, z12, z13⟩, -⟩ := m_facts
  exact z8
theorem k_r104_18 : am_rv0 104 18 = .ref 113 := by
  obtain ⟨⟨z0, z1, z2, z3, z4, z5, z6, z7, z8, z9, z10, z11, z12, z13⟩, -⟩ := m_facts
  exact z9
theorem k_r104_22 : am_rv0 104 22 = .ref 114 := by
  obtain ⟨⟨z0, z1, z2, z3, z4, z5, z6, z7, z8, z9, z10, z11, z12, z13⟩, -⟩ := m_facts
  exact z10
theorem k_r104_23 : am_rv0 104 23 = .ref 115 := by
  obtain ⟨⟨z0, z1, z2, z3, z4, z5, z6, z7, z8, z9, z10, z11, z12, z13⟩, -⟩ := m_facts
  exact z11
theorem k_r104_24 : am_rv0 104 24 = .ref 116 := by
  obtain ⟨⟨z0, z1, z2, z3, z4, z5, z6, z7, z8, z9, z10, z11, z12, z13⟩, -⟩ := m_facts
  exact z12
theorem k_r104_25 : am_rv0 104 25 = .ref 117 := by
  obtain ⟨⟨z0, z1, z2, z3, z4, z5, z6, z7, z8, z9, z10, z11, z12, z13⟩, -⟩ := m_facts
  exact z13
theorem k_s105 : am_sh0 105 = (20, 198) := by
  obtain ⟨-, ⟨z0, z1, z2, z3, z4, z5, z6, z7, z8, z9, z10, z11, z12⟩, -⟩ := m_facts
  exact z0
theorem k_s106 : am_sh0 106 = (20, 198) := by
  obtain ⟨-, ⟨z0, z1, z2, z3, z4, z5, z6, z7, z8, z9, z10, z11, z12⟩, -⟩ := m_facts
  exact z1
theorem k_s107 : am_sh0 107 = (20, 198) := by
  obtain ⟨-, ⟨z0, z1, z2, z3, z4, z5, z6, z7, z8, z9, z10, z11, z12⟩, -⟩ := m_facts
  exact z2
theorem k_s108 : am_sh0 108 = (20, 8) := by
  obtain ⟨-, ⟨z0, z1, z2, z3, z4, z5, z6, z7, z8, z9, z10, z11, z12⟩, -⟩ := m_facts
  exact z3
theorem k_s109 : am_sh0 109 = (20, 30) := by
  obtain ⟨-, ⟨z0, z1, z2, z3, z4, z5, z6, z7, z8, z9, z10, z11, z12⟩, -⟩ := m_facts
  exact z4
theorem k_s110 : am_sh0 110 = (20, 5) := by
  obtain ⟨-, ⟨z0, z1, z2, z3, z4, z5, z6, z7, z8, z9, z10, z11, z12⟩, -⟩ := m_facts
  exact z5
theorem k_s111 : am_sh0 111 = (20, 120) := by
  obtain ⟨-, ⟨z0, z1, z2, z3, z4, z5, z6, z7, z8, z9, z10, z11, z12⟩, -⟩ := m_facts
  exact z6
theorem k_s112 : am_sh0 112 = (25, 7) := by
  obtain ⟨-, ⟨z0, z1, z2, z3, z4, z5, z6, z7, z8, z9, z10, z11, z12⟩, -⟩ := m_facts
  exact z7
theorem k_s113 : am_sh0 113 = (20, 480) := by
  obtain ⟨-, ⟨z0, z1, z2, z3, z4, z5, z6, z7, z8, z9, z10, z11, z12⟩, -⟩ := m_facts
  exact z8
theorem k_s114 : am_sh0 114 = (20, 4) := by
  obtain ⟨-, ⟨z0, z1, z2, z3, z4, z5, z6, z7, z8, z9, z10, z11, z12⟩, -⟩ := m_facts
  exact z9
theorem k_s115 : am_sh0 115 = (20, 4) := by
  obtain ⟨-, ⟨z0, z1, z2, z3, z4, z5, z6, z7, z8, z9, z10, z11, z12⟩, -⟩ := m_facts
  exact z10
theorem k_s116 : am_sh0 116 = (20, 160) := by
  obtain ⟨-, ⟨z0, z1, z2, z3, z4, z5, z6, z7, z8, z9, z10, z11, z12⟩, -⟩ := m_facts
  exact z11
theorem k_s117 : am_sh0 117 = (20, 40) := by
  obtain ⟨-, ⟨z0, z1, z2, z3, z4, z5, z6, z7, z8, z9, z10, z11, z12⟩, -⟩ := m_facts
  exact z12
