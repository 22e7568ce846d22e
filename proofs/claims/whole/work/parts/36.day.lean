/-! layer 2: a gift's day, the class's cells against the row of numbers -/
section Day
variable {f : Nat → Nat → Int32} {c q : Nat} {N : Nat → Int32} {g B p : Int32}
def upN (N : Nat → Int32) (k : Nat) (x : Int32) : Nat → Int32 := fun j => if j = k then x else N j
theorem up_at {N : Nat → Int32} {k j : Nat} {x : Int32} : upN N k x j = if j = k then x else N j := rfl
theorem up_ne {N : Nat → Int32} {k j : Nat} {x : Int32} (h : ¬ j = k) : upN N k x j = N j := if_neg h
theorem up_eq {N : Nat → Int32} {k : Nat} {x : Int32} : upN N k x k = x := if_pos rfl
def setR (f : Nat → Nat → Int32) (N : Nat → Int32) : Nat → Nat → Int32 := fun c => if c = 105 then N else f c
theorem set_up {k : Nat} {x : Int32} : u2 (setR f N) 105 k x = setR f (upN N k x) := by
  funext c j
  simp only [u2_at, setR, upN]
  by_cases h : c = 105
  · simp only [h, true_and, if_true]
    rfl
  · simp only [h, false_and, if_false]
theorem set_id : setR f (f 105) = f := by
  funext c
  simp only [setR]
  by_cases h : c = 105
  · rw [if_pos h, h]
  · rw [if_neg h]
theorem set_105 : setR f N 105 = N := if_pos rfl
theorem set_ne (h : ¬ c = 105) : setR f N c = f c := if_neg h
def wrapR (N : Nat → Int32) (g n p : Int32) : Nat → Int32 :=
  if 12 ≤ N (48 + 30 * ix g + 5) then N
  else upN (upN (upN N (48 + 30 * ix g + ix (6 + N (48 + 30 * ix g + 5))) n) (48 + 30 * ix g + ix (18 + N (48 + 30 * ix g + 5))) p) (48 + 30 * ix g + 5) (N (48 + 30 * ix g + 5) + 1)
def dayR (N : Nat → Int32) (gone g B : Int32) : Nat → Int32 :=
  if keepN N B (N (48 + 30 * ix g + 2)) g = true then upN N (48 + 30 * ix g + 3) 1
  else if handN N gone (N (48 + 30 * ix g + 2)) g < 0 ∨ N 3 - 1 < handN N gone (N (48 + 30 * ix g + 2)) g ∨ handN N gone (N (48 + 30 * ix g + 2)) g = gone
  then wrapR N g (nameN N (N (48 + 30 * ix g + 2)) g (N (48 + 30 * ix g + 5))) (N (48 + 30 * ix g + 2))
  else upN (wrapR N g (nameN N (N (48 + 30 * ix g + 2)) g (N (48 + 30 * ix g + 5))) (N (48 + 30 * ix g + 2))) (48 + 30 * ix g + 2) (handN N gone (N (48 + 30 * ix g + 2)) g)
theorem wrapN_eq {n : Int32} : wrapN f g n p = setR f (wrapR (f 105) g n p) := by
  unfold wrapN wrapR
  by_cases h : 12 ≤ f 105 (48 + 30 * ix g + 5)
  · rw [if_pos h, if_pos h, set_id]
  · rw [if_neg h, if_neg h, ← set_up, ← set_up, ← set_up, set_id]
theorem wrapR_3 {n : Int32} : wrapR N g n p 3 = N 3 := by
  unfold wrapR
  by_cases h : 12 ≤ N (48 + 30 * ix g + 5)
  · rw [if_pos h]
  · rw [if_neg h, up_ne (by omega), up_ne (by omega), up_ne (by omega)]
theorem dayN_eq : dayN f g B = setR f (dayR (f 105) (f 104 5) g B) := by
  unfold dayN dayR
  simp only [wrapN_eq, set_105, wrapR_3, set_ne (show ¬ 104 = 105 by decide)]
  split
  · rw [← set_up, set_id]
  · split
    · rfl
    · rw [set_up]
/-- the class's coast c stands as the row N tells -/
def REN (f : Nat → Nat → Int32) (c : Nat) (N : Nat → Int32) : Prop := f c 3 = N 3 ∧ f c 4 = N 4 ∧ f c 5 = N 1 ∧ f c 6 = N 2 ∧ ∀ p, p < 8 → ∀ k, k < 4 → f (c + 4 + p) k = N (16 + 4 * p + k)
/-- the class's gift q stands as the row N tells of g -/
def RGN (f : Nat → Nat → Int32) (q : Nat) (N : Nat → Int32) (g B : Int32) : Prop :=
  f q 4 = N (48 + 30 * ix g + 3) ∧ f q 5 = N (48 + 30 * ix g + 2) ∧ f q 6 = N (48 + 30 * ix g + 5) ∧ f q 3 = N (48 + 30 * ix g + 1) ∧ f q 2 = N (48 + 30 * ix g) ∧ f q 2 + f q 7 = B ∧ ∀ i, i < ix (f q 6) → f (q + 1) i = N (48 + 30 * ix g + (6 + i)) ∧ f (q + 2) i = N (48 + 30 * ix g + (18 + i))
theorem nameC_eq (hg : RGN f q N g B) (hL : vp_in (f q 6) 13) {i : Int32} (h0 : ¬ i < 0) (h1 : i < f q 6) : nameC f q i = N (48 + 30 * ix g + (6 + ix i)) ∧ handC f q i = N (48 + 30 * ix g + (18 + ix i)) := by
  obtain ⟨g1, g2, g3, g4, g5, g6, g7⟩ := hg
  have a1 := vp_in_iff.mp hL
  have a2 := Int32.lt_iff_toInt_lt.mp h1
  have a3 := Int32.le_iff_toInt_le.mp (Int32.not_lt.mp h0)
  have l0 : (0 : Int32).toInt = 0 := rfl
  have l : (12 : Int32).toInt = 12 := rfl
  have e : ¬ (i < 0 ∨ 12 ≤ i) := fun z => z.elim h0 (fun z => by have := Int32.le_iff_toInt_le.mp z; omega)
  unfold nameC handC
  rw [if_neg e, if_neg e]
  exact g7 _ (by rw [ix_toInt, ix_toInt]; omega)
theorem trait_eq (he : REN f c N) (hp : vp_in p 8) {k : Nat} (hk : k < 4) : trait f c p k = N (16 + 4 * ix p + k) := he.2.2.2.2 _ (vi_lt hp) k hk
theorem keep_eq (he : REN f c N) (hg : RGN f q N g B) (hL : vp_in (f q 6) 13) (hp : vp_in p 8) (h0 : ¬ p < 0) (h1 : ¬ N 3 ≤ p) : keepB f c p q = keepN N B p g := by
  have t0 := trait_eq he hp (show 0 < 4 by decide)
  have t3 := trait_eq he hp (show 3 < 4 by decide)
  have hn : ¬ f q 6 ≤ 0 → nameC f q 0 = N (48 + 30 * ix g + 6) := fun z => (nameC_eq hg hL (by decide) (Int32.not_le.mp z)).1
  obtain ⟨e1, e2, e3, e4, -⟩ := he
  obtain ⟨g1, g2, g3, g4, g5, g6, g7⟩ := hg
  have hw : f q 2 + f c 6 * f q 6 + f q 7 = B + N 2 * N (48 + 30 * ix g + 5) := by rw [← g6, e4, g3]; ac_rfl
  have e : (¬ f q 6 ≤ 0 ∧ nameC f q 0 = p) = (¬ N (48 + 30 * ix g + 5) ≤ 0 ∧ N (48 + 30 * ix g + 6) = p) := by
    rw [← g3]
    exact propext ⟨fun z => ⟨z.1, (hn z.1) ▸ z.2⟩, fun z => ⟨z.1, (hn z.1).trans z.2⟩⟩
  unfold keepB keepN
  simp only [e, hw]
  simp only [t0, t3, e1, e3, g3, h0, h1, not_false_eq_true, true_and, Nat.add_zero]
theorem le_0 {n : Int32} (h : vp_in n 13) : (n ≤ 0) = (n = 0) := propext (by
  have a1 := vp_in_iff.mp h
  have l0 : (0 : Int32).toInt = 0 := rfl
  exact ⟨fun z => i_eq (by have := Int32.le_iff_toInt_le.mp z; omega), fun z => by rw [z]; exact Int32.le_refl 0⟩)
theorem m_1 {n : Int32} (h : vp_in n 13) (h0 : ¬ n = 0) : ¬ n - 1 < 0 ∧ n - 1 < n ∧ ix (n - 1) = ix n - 1 := by
  have a1 := vp_in_iff.mp h
  have l0 : (0 : Int32).toInt = 0 := rfl
  have l1 : (1 : Int32).toInt = 1 := rfl
  have a2 : ¬ n.toInt = 0 := fun z => h0 (i_eq (a := n) (b := 0) z)
  have e : (n - 1).toInt = n.toInt - 1 := by rw [i_sub (by rw [l1]; omega) (by rw [l1]; omega), l1]
  refine ⟨fun z => ?_, Int32.lt_iff_toInt_lt.mpr (by omega), by rw [ix_toInt, ix_toInt, e]; omega⟩
  have := Int32.lt_iff_toInt_lt.mp z
  omega
theorem out_eq (hg : RGN f q N g B) (hL : vp_in (f q 6) 13) (h : ¬ f q 6 = 0) : nameC f q (f q 6 - 1) = N (48 + 30 * ix g + ix (6 + f q 6 - 1)) ∧ handC f q (f q 6 - 1) = N (48 + 30 * ix g + ix (18 + f q 6 - 1)) := by
  obtain ⟨m1, m2, m3⟩ := m_1 hL h
  have a := nameC_eq hg hL m1 m2
  rw [m3] at a
  rw [(o_at hL h (k := 6) (by decide) (by decide)).2, (o_at hL h (k := 18) (by decide) (by decide)).2]
  exact a
theorem name_eq (he : REN f c N) (hg : RGN f q N g B) (hL : vp_in (f q 6) 13) (hp : vp_in p 8) (h0 : ¬ p < 0) (h1 : ¬ N 3 ≤ p) : nameByC f c p q (f q 6) = nameN N p g (f q 6) := by
  have t0 := trait_eq he hp (show 0 < 4 by decide)
  have t2 := trait_eq he hp (show 2 < 4 by decide)
  have ho := fun z => (out_eq hg hL z).1
  obtain ⟨e1, e2, e3, e4, -⟩ := he
  unfold nameByC nameN outN
  simp only [t0, t2, e1, h0, h1, or_self, if_false, Nat.add_zero, le_0 hL]
  by_cases h4 : N (16 + 4 * ix p) = 4
  · have n56 : ¬ (N (16 + 4 * ix p) = 5 ∨ N (16 + 4 * ix p) = 6) := by rw [h4]; decide
    rw [if_pos h4, if_neg n56, if_pos h4]
    by_cases hz : f q 6 = 0
    · rw [if_pos hz, if_pos hz]
    · rw [if_neg hz, if_neg hz, ho hz]
  · rw [if_neg h4, if_neg h4]
theorem hand_eq (he : REN f c N) (hg : RGN f q N g B) (hL : vp_in (f q 6) 13) (hp : vp_in p 8) (h0 : ¬ p < 0) (h1 : ¬ N 3 ≤ p) (hx : vp_in (N (16 + 4 * ix p + 1)) 8) (h3 : (N 3 - 1 < N (16 + 4 * ix p + 1)) = (N 3 ≤ N (16 + 4 * ix p + 1))) {gone : Int32} : recvC f c p q gone = handN N gone p g := by
  have t0 := trait_eq he hp (show 0 < 4 by decide)
  have t1 := trait_eq he hp (show 1 < 4 by decide)
  have t4 := trait_eq he hx (show 1 < 4 by decide)
  have ho := fun z => out_eq hg hL z
  obtain ⟨e1, e2, e3, e4, -⟩ := he
  have g3 := hg.2.2.1
  unfold recvC handN outN
  rw [← g3]
  simp only [t0, t1, t4, e1, h0, h1, h3, or_self, if_false, Nat.add_zero, le_0 hL]
  by_cases k3 : N (16 + 4 * ix p) = 3
  · rw [if_neg (by rw [k3]; decide), if_pos k3, if_pos k3]
    by_cases hz : f q 6 = 0
    · rw [if_pos hz, if_pos hz]
    · rw [if_neg hz, if_neg hz, (ho hz).1]
  · rw [if_neg k3, if_neg k3]
    by_cases k6 : N (16 + 4 * ix p) = 6
    · rw [if_neg (by rw [k6]; decide), if_pos k6, if_pos k6]
      by_cases hz : f q 6 = 0
      · rw [if_pos hz, if_pos hz]
      · rw [if_neg hz, if_neg hz, (ho hz).2]
    · rw [if_neg k6, if_neg k6]
      by_cases k2 : N (16 + 4 * ix p) = 2 ∨ N (16 + 4 * ix p) = 4
      · rw [if_pos k2]
        by_cases hd : N (16 + 4 * ix p + 1) < 0 ∨ N 3 ≤ N (16 + 4 * ix p + 1) ∨ N (16 + 4 * ix p + 1) = gone
        · rw [if_pos hd, if_neg (fun z => z.2 hd)]
        · rw [if_neg hd, if_pos ⟨k2, hd⟩]
      · rw [if_neg k2, if_neg (fun z => k2 z.1)]
theorem u2_ne {c c' k : Nat} {x : Int32} (h : ¬ c' = c) : u2 f c k x c' = f c' := by
  funext k'
  exact if_neg (fun z => h z.1)
theorem u2_nk {c k k' : Nat} {x : Int32} (h : ¬ k' = k) : u2 f c k x c k' = f c k' := if_neg (fun z => h z.2)
theorem u2_eq {c k : Nat} {x : Int32} : u2 f c k x c k = x := if_pos ⟨rfl, rfl⟩
theorem how_rel {x : Int32} (hg : RGN f q N g B) : RGN (u2 f q 4 x) q (upN N (48 + 30 * ix g + 3) x) g B := by
  obtain ⟨g1, g2, g3, g4, g5, g6, g7⟩ := hg
  unfold RGN
  rw [u2_eq, u2_nk (by decide), u2_nk (by decide), u2_nk (by decide), u2_nk (by decide), u2_nk (by decide), u2_ne (by omega), u2_ne (by omega), up_eq, up_ne (by omega), up_ne (by omega), up_ne (by omega), up_ne (by omega)]
  refine ⟨rfl, g2, g3, g4, g5, g6, fun i hi => ?_⟩
  rw [up_ne (by omega), up_ne (by omega)]
  exact g7 i hi
theorem who_rel {x : Int32} (hg : RGN f q N g B) : RGN (u2 f q 5 x) q (upN N (48 + 30 * ix g + 2) x) g B := by
  obtain ⟨g1, g2, g3, g4, g5, g6, g7⟩ := hg
  unfold RGN
  rw [u2_eq, u2_nk (by decide), u2_nk (by decide), u2_nk (by decide), u2_nk (by decide), u2_nk (by decide), u2_ne (by omega), u2_ne (by omega), up_eq, up_ne (by omega), up_ne (by omega), up_ne (by omega), up_ne (by omega)]
  refine ⟨g1, rfl, g3, g4, g5, g6, fun i hi => ?_⟩
  rw [up_ne (by omega), up_ne (by omega)]
  exact g7 i hi
theorem i_s {n : Int32} (h : vp_in n 12) : ix (n + 1) = ix n + 1 := by
  have a1 := vp_in_iff.mp h
  have l1 : (1 : Int32).toInt = 1 := rfl
  have e : (n + 1).toInt = n.toInt + 1 := by rw [i_add (by rw [l1]; omega) (by rw [l1]; omega), l1]
  rw [ix_toInt, ix_toInt, e]
  omega
theorem not12 {n : Int32} (h : vp_in n 12) : ¬ (n < 0 ∨ 12 ≤ n) := by
  have a1 := vp_in_iff.mp h
  have l0 : (0 : Int32).toInt = 0 := rfl
  have l : (12 : Int32).toInt = 12 := rfl
  intro z
  rcases z with z | z
  · have := Int32.lt_iff_toInt_lt.mp z
    omega
  · have := Int32.le_iff_toInt_le.mp z
    omega
theorem wrap_rel {n : Int32} (hg : RGN f q N g B) (hL : vp_in (f q 6) 13) : RGN (wrapC f q n p) q (wrapR N g n p) g B := by
  have g3 := hg.2.2.1
  unfold wrapC wrapR
  rw [← g3]
  by_cases h12 : 12 ≤ f q 6
  · rw [if_pos (Or.inr h12), if_pos h12]
    exact hg
  · have h2 := n12 hL h12
    have e6 := (o_in h2 (k := 6) (by decide) (by decide)).2
    have e18 := (o_in h2 (k := 18) (by decide) (by decide)).2
    rw [if_neg (not12 h2), if_neg h12, e6, e18, ix_6, ix_18]
    have hlt := vi_lt h2
    obtain ⟨g1, g2, g3, g4, g5, g6, g7⟩ := hg
    generalize hl : f q 6 = l at *
    unfold RGN
    rw [u2_eq, u2_nk (by decide), u2_nk (by decide), u2_nk (by decide), u2_nk (by decide), u2_nk (by decide)]
    rw [u2_ne (show ¬ q + 1 = q by omega), u2_ne (show ¬ q + 2 = q by omega), u2_ne (show ¬ q = q + 2 by omega), u2_ne (show ¬ q = q + 1 by omega), u2_ne (show ¬ q + 1 = q + 2 by omega)]
    rw [up_eq, i_s h2]
    rw [up_ne (by omega), up_ne (by omega), up_ne (by omega), up_ne (by omega), up_ne (by omega), up_ne (by omega), up_ne (by omega), up_ne (by omega), up_ne (by omega), up_ne (by omega), up_ne (by omega), up_ne (by omega)]
    refine ⟨g1, g2, rfl, g4, g5, g6, fun i hi => ?_⟩
    rw [up_ne (by omega), up_ne (show ¬ 48 + 30 * ix g + (18 + i) = 48 + 30 * ix g + 5 by omega)]
    by_cases hi2 : i = ix l
    · subst hi2
      rw [u2_eq, u2_eq, up_ne (by omega), up_eq, up_eq]
      exact ⟨rfl, rfl⟩
    · rw [u2_nk hi2, u2_nk hi2, u2_ne (by omega), up_ne (by omega), up_ne (by omega), up_ne (by omega), up_ne (by omega)]
      exact g7 i (by omega)
end Day
