/-! layer 2: text, the call -/
section BText
variable {d : Nat} {cs : Nat → Nat × (Nat → Int32)} {f f' f0 f1 f2 : Nat → Nat → Int32}
theorem R_text (h : R f) (hc : RC f' 1 (f' 105)) (fr : ∀ c, (c = 0 ∨ 28 ≤ c ∧ c ≤ 54 ∨ 94 ≤ c ∧ c ≤ 103 ∨ c = 106 ∨ c = 108 ∨ 114 ≤ c ∧ c ≤ 116) → f' c = f c) (g3 : f' 104 3 = f 104 3) (g5 : f' 104 5 = f 104 5) (h59 : f' 59 1 = 0) (h11 : f' 104 11 = 0) : R f' := by
  obtain ⟨-, h2, h3, h4, h5, -, h7⟩ := h
  refine ⟨hc, ?_, ?_, ?_, ?_, ?_, ?_⟩
  · rw [fr 0 (by omega), g3]
    exact h2
  · rw [g3, fr 106 (by omega)]
    exact h3.elim Or.inl (fun y => Or.inr ⟨y.1, RC_fr y.2 (fun c' _ _ => fr c' (by omega))⟩)
  · rw [g5]
    exact h4
  · unfold RF at *
    rw [fr 95 (by omega), fr 108 (by omega)]
    exact h5
  · unfold RT
    rw [h59, h11]
    exact ⟨rfl, vp_in_iff.mpr (by decide), fun i hi => absurd hi (Nat.not_lt_zero i)⟩
  · intro s hs
    have q := h7 s hs
    rw [fr (96 + 2 * s) (by omega), fr (97 + 2 * s) (by omega), fr 114 (by omega), fr 115 (by omega), fr 116 (by omega)]
    exact q
theorem b_text (h : R f) : both (d + 20) cs 130 239 [] f := by
  obtain ⟨t1, t2, t3⟩ := h.2.2.2.2.2.1
  have L120 := vi_lt t2
  have hie := h.1.1
  have hb : bd (f 105) := ⟨hie.1, hie.2.1, hie.2.2.2.1, hie.2.2.2.2.1⟩
  unfold both
  refine s_text h (fun n f1 xs hT r hRC g59 fr => ?_) (fun n e f1 hT r he g59 fr => ?_)
  · refine ⟨_, _, rfl, rfl, ?_⟩
    have e104 : f1 104 = f 104 := fr 104 (by omega) (by omega) (by omega)
    have e111 : f1 111 = f 111 := fr 111 (by omega) (by omega) (by omega)
    have e105 : f1 105 = f 105 := fr 105 (by omega) (by omega) (by omega)
    refine r_text hT (by omega) (fun j hj => (t3 j hj).2) (by rw [e104, n_of t2]) e111 (by rw [e105]; exact hb) (fun ys f2 r2 tf g11 => ?_) (fun e f2 r2 tf g11 => ?_)
    · rw [e105, r] at r2
      injection r2 with r2
      subst r2
      rw [e105]
      refine ⟨rfl, _, rfl, R_text h ?_ (fun c hc => ?_) ?_ ?_ ?_ ?_⟩
      · rw [set_105]
        exact RC_fr hRC (fun c' _ _ => (set_ne (by omega)).trans (tf.1 c' (by omega) (by omega)))
      · rw [set_ne (by omega), tf.1 c (by omega) (by omega)]
        exact fr c (by omega) (by omega) (by omega)
      · rw [set_ne (by decide), tf.2 3 (by omega) (by omega) (by omega) (by omega), e104]
      · rw [set_ne (by decide), tf.2 5 (by omega) (by omega) (by omega) (by omega), e104]
      · rw [set_ne (by decide), tf.1 59 (by omega) (by omega)]
        exact g59
      · rw [set_ne (by decide)]
        exact g11
    · rw [e105, r] at r2
      exact absurd r2 (by simp)
  · refine ⟨_, _, rfl, rfl, ?_⟩
    have e104 : f1 104 = f 104 := fr 104 (by omega) (by omega)
    have e111 : f1 111 = f 111 := fr 111 (by omega) (by omega)
    have e105 : f1 105 = f 105 := fr 105 (by omega) (by omega)
    refine r_text hT (by omega) (fun j hj => (t3 j hj).2) (by rw [e104, n_of t2]) e111 (by rw [e105]; exact hb) (fun ys f2 r2 tf g11 => ?_) (fun e2 f2 r2 tf g11 => ?_)
    · rw [e105, r] at r2
      exact absurd r2 (by simp)
    · rw [e105, r] at r2
      injection r2 with r2
      subst r2
      refine ⟨rfl, _, rfl, R_text h ?_ (fun c hc => ?_) ?_ ?_ ?_ ?_⟩
      · rw [tf.1 105 (by omega) (by omega), e105]
        exact RC_fr h.1 (fun c' _ _ => (tf.1 c' (by omega) (by omega)).trans (fr c' (by omega) (by omega)))
      · rw [tf.1 c (by omega) (by omega)]
        exact fr c (by omega) (by omega)
      · rw [tf.2 3 (by omega) (by omega) (by omega) (by omega), e104]
      · rw [tf.2 5 (by omega) (by omega) (by omega) (by omega), e104]
      · rw [tf.1 59 (by omega) (by omega)]
        exact g59
      · exact g11
end BText
