/-! layer 2: a day keeps the relation and what always holds -/
section Inv
variable {f : Nat → Nat → Int32} {c q : Nat} {N : Nat → Int32} {g B p gone : Int32}
theorem le_m1 {m x : Int32} (h : vp_in m 9) : (m - 1 < x) = (m ≤ x) := propext (by
  have a1 := vp_in_iff.mp h
  have l1 : (1 : Int32).toInt = 1 := rfl
  have e : (m - 1).toInt = m.toInt - 1 := by rw [i_sub (by rw [l1]; omega) (by rw [l1]; omega), l1]
  rw [Int32.lt_iff_toInt_lt, Int32.le_iff_toInt_le, e]
  omega)
theorem wrap_fr {n : Int32} {c' : Nat} (h0 : ¬ c' = q) (h1 : ¬ c' = q + 1) (h2 : ¬ c' = q + 2) : wrapC f q n p c' = f c' := by
  unfold wrapC
  split
  · rfl
  · rw [u2_ne h0, u2_ne h2, u2_ne h1]
theorem pass_fr {c' : Nat} (h0 : ¬ c' = q) (h1 : ¬ c' = q + 1) (h2 : ¬ c' = q + 2) : passC f c q gone c' = f c' := by
  unfold passC
  split
  · rfl
  · split
    · exact u2_ne h0
    · split
      · exact wrap_fr h0 h1 h2
      · rw [u2_ne h0, wrap_fr h0 h1 h2]
theorem day_rel (he : REN f c N) (hg : RGN f q N g B) (hL : vp_in (f q 6) 13) (d0 : ¬ c = q) (d1 : ¬ c = q + 1) (d2 : ¬ c = q + 2) (hh : f q 4 = 0) (hp : vp_in (f q 5) 8) (h0 : ¬ f q 5 < 0) (h1 : ¬ N 3 ≤ f q 5) (hx : vp_in (N (16 + 4 * ix (f q 5) + 1)) 8) (h3 : vp_in (N 3) 9) : RGN (passC f c q gone) q (dayR N gone g B) g B := by
  unfold passC dayR
  rw [← hg.2.1, ← hg.2.2.1, if_neg (fun z => z.elim (fun y => y hh) (fun z => z.elim h0 (fun z => h1 (he.1 ▸ z)))), keep_eq he hg hL hp h0 h1, name_eq he hg hL hp h0 h1, hand_eq he hg hL hp h0 h1 hx (le_m1 h3), wrap_fr d0 d1 d2, he.1]
  simp only [le_m1 h3]
  split
  · exact how_rel hg
  · split
    · exact wrap_rel hg hL
    · exact who_rel (wrap_rel hg hL)
/-- the row keeps to its gift -/
theorem wrapR_fr {n : Int32} {k : Nat} (hL : vp_in (N (48 + 30 * ix g + 5)) 13) (h : k < 48 + 30 * ix g ∨ 48 + 30 * ix g + 30 ≤ k) : wrapR N g n p k = N k := by
  unfold wrapR
  split
  · rfl
  · rename_i h12
    have h2 := n12 hL h12
    have hlt := vi_lt h2
    rw [(o_in h2 (k := 6) (by decide) (by decide)).2, (o_in h2 (k := 18) (by decide) (by decide)).2, ix_6, ix_18, up_ne (by omega), up_ne (by omega), up_ne (by omega)]
theorem dayR_fr {k : Nat} (hL : vp_in (N (48 + 30 * ix g + 5)) 13) (h : k < 48 + 30 * ix g ∨ 48 + 30 * ix g + 30 ≤ k) : dayR N gone g B k = N k := by
  unfold dayR
  split
  · exact up_ne (by omega)
  · split
    · exact wrapR_fr hL h
    · rw [up_ne (by omega), wrapR_fr hL h]
def okP (N : Nat → Int32) (p : Int32) : Prop := vp_in p 8 ∧ ¬ N 3 ≤ p
def IE (N : Nat → Int32) : Prop := vp_in (N 3) 9 ∧ vp_in (N 4) 6 ∧ vp_in (N 0) 10000 ∧ vp_in (N 1) 21 ∧ vp_in (N 2) 10 ∧ ∀ p, p < 8 → vp_in (N (16 + 4 * p)) 7 ∧ vp_in (N (16 + 4 * p + 1)) 8 ∧ vp_in (N (16 + 4 * p + 2)) 8 ∧ vp_in (N (16 + 4 * p + 3)) 100
def IG (N : Nat → Int32) (g : Nat) : Prop := vp_in (N (48 + 30 * g + 3)) 3 ∧ vp_in (N (48 + 30 * g + 5)) 13 ∧ (¬ N (48 + 30 * g + 3) = 2 → okP N (N (48 + 30 * g + 2))) ∧ ∀ i, i < ix (N (48 + 30 * g + 5)) → vp_in (N (48 + 30 * g + (6 + i))) 8 ∧ okP N (N (48 + 30 * g + (18 + i)))
theorem vi_pos {i : Int32} {n : Nat} (h : vp_in i n) : ¬ i < 0 := fun z => by
  have a1 := vp_in_iff.mp h
  have l0 : (0 : Int32).toInt = 0 := rfl
  have := Int32.lt_iff_toInt_lt.mp z
  omega
theorem ok_of (h3 : vp_in (N 3) 9) {x : Int32} (h0 : ¬ x < 0) (h1 : ¬ N 3 - 1 < x) : okP N x := by
  rw [le_m1 h3] at h1
  refine ⟨vi_of h0 h1 ?_ (rfl : (8 : Int32).toInt = 8), h1⟩
  have a1 := vp_in_iff.mp h3
  have l : (8 : Int32).toInt = 8 := rfl
  exact Int32.le_iff_toInt_le.mpr (by omega)
theorem out_ok (hi : ∀ i, i < ix (N (48 + 30 * ix g + 5)) → vp_in (N (48 + 30 * ix g + (6 + i))) 8) (hL : vp_in (N (48 + 30 * ix g + 5)) 13) {o : Int32} (ho : vp_in o 8) : vp_in (outN N g (N (48 + 30 * ix g + 5)) 6 o) 8 := by
  unfold outN
  split
  · exact ho
  · rename_i h
    rw [(o_at hL h (k := 6) (by decide) (by decide)).2, ix_6]
    obtain ⟨m1, m2, m3⟩ := m_1 hL h
    have := vi_lt hL
    have a1 := vp_in_iff.mp hL
    have a2 : ¬ (N (48 + 30 * ix g + 5)).toInt = 0 := fun z => h (i_eq (b := 0) z)
    exact hi _ (by rw [ix_toInt]; omega)
theorem name_ok (he : IE N) (hg : IG N (ix g)) (hp : vp_in p 8) : vp_in (nameN N p g (N (48 + 30 * ix g + 5))) 8 := by
  obtain ⟨-, -, -, -, -, e⟩ := he
  obtain ⟨e0, e1, e2, e3⟩ := e _ (vi_lt hp)
  unfold nameN
  split
  · exact hp
  · split
    · exact out_ok (fun i hi => (hg.2.2.2 i hi).1) hg.2.1 e2
    · exact e2
theorem wrapR_ok {n : Int32} (hg : IG N (ix g)) (hn : vp_in n 8) (hp : okP N p) : IG (wrapR N g n p) (ix g) := by
  obtain ⟨g1, g2, g3, g4⟩ := hg
  unfold wrapR
  by_cases h12 : 12 ≤ N (48 + 30 * ix g + 5)
  · rw [if_pos h12]
    exact ⟨g1, g2, g3, g4⟩
  · have h2 := n12 g2 h12
    have hlt := vi_lt h2
    have hs := i_s h2
    rw [if_neg h12, (o_in h2 (k := 6) (by decide) (by decide)).2, (o_in h2 (k := 18) (by decide) (by decide)).2, ix_6, ix_18]
    generalize hl : N (48 + 30 * ix g + 5) = l at *
    have k3 : ∀ x y z : Int32, upN (upN (upN N (48 + 30 * ix g + (6 + ix l)) x) (48 + 30 * ix g + (18 + ix l)) y) (48 + 30 * ix g + 5) z 3 = N 3 := fun x y z => by rw [up_ne (by omega), up_ne (by omega), up_ne (by omega)]
    unfold IG okP
    rw [k3, up_eq, up_ne (by omega), up_ne (by omega), up_ne (by omega), up_ne (show ¬ 48 + 30 * ix g + 2 = 48 + 30 * ix g + 5 by omega), up_ne (by omega), up_ne (by omega), hs]
    refine ⟨g1, vp_in_iff.mpr ?_, g3, fun i hi => ?_⟩
    · have a1 := vp_in_iff.mp h2
      have l1 : (1 : Int32).toInt = 1 := rfl
      rw [i_add (by rw [l1]; omega) (by rw [l1]; omega), l1]
      omega
    · rw [up_ne (by omega), up_ne (show ¬ 48 + 30 * ix g + (18 + i) = 48 + 30 * ix g + 5 by omega), up_ne (show ¬ 48 + 30 * ix g + (6 + i) = 48 + 30 * ix g + (18 + ix l) by omega)]
      by_cases hi2 : i = ix l
      · subst hi2
        rw [up_eq, up_eq]
        exact ⟨hn, hp⟩
      · rw [up_ne (by omega), up_ne (by omega), up_ne (by omega)]
        exact g4 i (by omega)
theorem dayR_ok (he : IE N) (hg : IG N (ix g)) (hh : N (48 + 30 * ix g + 3) = 0) : IG (dayR N gone g B) (ix g) := by
  have hp := hg.2.2.1 (by rw [hh]; decide)
  have hw := wrapR_ok hg (name_ok he hg hp.1) hp
  have k3 : ∀ n p, wrapR N g n p 3 = N 3 := fun n p => wrapR_3
  unfold dayR
  split
  · obtain ⟨g1, g2, g3, g4⟩ := hg
    unfold IG okP
    rw [up_eq, up_ne (by omega), up_ne (by omega), up_ne (by omega)]
    refine ⟨vp_in_iff.mpr (by decide), g2, fun _ => hp, fun i hi => ?_⟩
    rw [up_ne (by omega), up_ne (by omega)]
    exact g4 i hi
  · split
    · exact hw
    · rename_i h
      obtain ⟨g1, g2, g3, g4⟩ := hw
      unfold IG okP at *
      rw [up_eq, up_ne (by omega), up_ne (by omega), up_ne (show ¬ 3 = 48 + 30 * ix g + 2 by omega)]
      refine ⟨g1, g2, fun _ => ?_, fun i hi => ?_⟩
      · rw [k3]
        exact ok_of he.1 (fun z => h (Or.inl z)) (fun z => h (Or.inr (Or.inl z)))
      · rw [up_ne (by omega), up_ne (by omega)]
        exact g4 i hi
end Inv
