/-! layer 2: days of all gifts, the rows -/
section Days
variable {f f' : Nat → Nat → Int32} {c : Nat} {N N' : Nat → Int32} {b : Nat} {BB : Nat → Int32} {rk : Nat → Nat} {g B gone x : Int32}
def stepG (BB : Nat → Int32) (N : Nat → Int32) (g : Nat) : Nat → Int32 := if N (48 + 30 * g + 3) = 0 then dayR N (-1) (Int32.ofNat g) (BB g) else N
def dG (BB : Nat → Int32) (N : Nat → Int32) : Nat → Nat → Int32
  | 0 => N
  | n + 1 => stepG BB (dG BB N n) n
def dD (BB : Nat → Int32) (b : Nat) : Nat → (Nat → Int32) → Nat → Int32
  | 0, N => N
  | k + 1, N => dD BB b k (dG BB N b)
def dE (BB : Nat → Int32) (b : Nat) : Nat → (Nat → Int32) → Nat → Int32
  | 0, N => N
  | k + 1, N => dE BB b k (upN (dG BB N b) 0 (dG BB N b 0 + 1))
/-- what always holds of a row -/
def NI (N : Nat → Int32) (b : Nat) (BB : Nat → Int32) (rk : Nat → Nat) : Prop := IE N ∧ WB N b BB rk ∧ ∀ g, g < b → rk g < 6 ∧ IG N g ∧ IX N b g
theorem NI_of (h : RC f c N) (hG : GP f c N b BB rk) : NI N b BB rk := ⟨h.1, hG.1, fun g hg => by
  obtain ⟨a1, a2, a3, a4⟩ := hG.2 g hg
  have := cntW_le (N := N) b
  have := hG.1.2.1
  exact ⟨by omega, a3, a4⟩⟩
theorem NI_WK (h : NI N b BB rk) {g : Nat} (hg : g < b) (hh : ¬ N (48 + 30 * g + 3) = 2) : WK N (Int32.ofNat g) (BB g) b BB rk := by
  obtain ⟨h1, h2, h3⟩ := h
  obtain ⟨a1, a2, a3⟩ := h3 g hg
  have b5 := h2.2.1
  have e := n_ix (n := g) (by omega)
  unfold WK
  rw [e]
  exact ⟨h1, a2, a3.2.elim (fun z => absurd z.1 hh) (fun z => z.2), h2, rfl, hg, n_in (by omega) (by omega), a1⟩
theorem dayR_0 (hL : vp_in (N (48 + 30 * ix g + 5)) 13) {k : Nat} (hk : k < 48) : dayR N gone g B k = N k := dayR_fr hL (by omega)
theorem NI_day (h : NI N b BB rk) {g : Nat} (hg : g < b) (hh : N (48 + 30 * g + 3) = 0) : NI (dayR N gone (Int32.ofNat g) (BB g)) b BB rk := by
  have w := NI_WK h hg (by rw [hh]; decide)
  obtain ⟨h1, h2, h3⟩ := h
  have b5 := h2.2.1
  have e := n_ix (n := g) (by omega)
  have hL : vp_in (N (48 + 30 * ix (Int32.ofNat g) + 5)) 13 := w.2.1.2.1
  have w' := WK_day (gone := gone) w (by rw [e]; exact hh)
  refine ⟨w'.1, w'.2.2.2.1, fun g' hg' => ?_⟩
  obtain ⟨a1, a2, a3⟩ := h3 g' hg'
  refine ⟨a1, ?_, ?_⟩
  · by_cases eg : g' = g
    · subst eg
      have q := w'.2.1
      rwa [e] at q
    · exact IG_m (fun j _ _ => dayR_fr hL (by rw [e]; omega)) (okP_3 (dayR_0 hL (by omega))) a2
  · by_cases eg : g' = g
    · subst eg
      have hx := a3.2.elim (fun z => absurd (hh.symm.trans z.1) (by decide)) (fun z => z.2)
      have k1 := dayR_fr2 (gone := gone) (B := BB g') (k := 48 + 30 * g' + 1) hL (by rw [e]; omega) (by rw [e]; omega) (by rw [e]; omega) (by rw [e]; omega)
      have k4 := dayR_fr2 (gone := gone) (B := BB g') (k := 48 + 30 * g' + 4) hL (by rw [e]; omega) (by rw [e]; omega) (by rw [e]; omega) (by rw [e]; omega)
      have hw := dayR_how (gone := gone) (B := BB g') hL
      rw [e] at hw
      unfold IX
      rw [k1, k4]
      refine ⟨a3.1, Or.inr ⟨?_, hx⟩⟩
      rcases hw with z | z
      · rw [z]; decide
      · rw [z, hh]; decide
    · exact IX_m (fun j _ _ => dayR_fr hL (by rw [e]; omega)) a3
theorem NI_step (h : NI N b BB rk) {g : Nat} (hg : g < b) : NI (stepG BB N g) b BB rk := by
  unfold stepG
  split
  · rename_i hh
    exact NI_day h hg hh
  · exact h
theorem NI_dG (h : NI N b BB rk) : ∀ n, n ≤ b → NI (dG BB N n) b BB rk
  | 0, _ => h
  | n + 1, hn => NI_step (NI_dG h n (by omega)) (by omega)
theorem stepG_fr (h : NI N b BB rk) {g k : Nat} (hg : g < b) (hk : k < 48 + 30 * g ∨ 48 + 30 * g + 30 ≤ k) : stepG BB N g k = N k := by
  have b5 := h.2.1.2.1
  have e := n_ix (n := g) (by omega)
  unfold stepG
  split
  · have hL := (h.2.2 g hg).2.1.2.1
    exact dayR_fr (by rw [e]; exact hL) (by rw [e]; omega)
  · rfl
theorem dG_lo (h : NI N b BB rk) {k : Nat} (hk : k < 48) : ∀ n, n ≤ b → dG BB N n k = N k
  | 0, _ => rfl
  | n + 1, hn => by rw [dG, stepG_fr (NI_dG h n (by omega)) (by omega) (by omega), dG_lo h hk n (by omega)]
theorem NI_dD : ∀ (k : Nat) (N : Nat → Int32), NI N b BB rk → NI (dD BB b k N) b BB rk
  | 0, _, h => h
  | k + 1, N, h => NI_dD k _ (NI_dG h b (Nat.le_refl b))
theorem dD_lo {j : Nat} (hj : j < 48) : ∀ (k : Nat) (N : Nat → Int32), NI N b BB rk → dD BB b k N j = N j
  | 0, _, _ => rfl
  | k + 1, N, h => by rw [dD, dD_lo hj k _ (NI_dG h b (Nat.le_refl b)), dG_lo h hj b (Nat.le_refl b)]
/-- a day reads but its own gift, the people and the law -/
theorem dayR_cg (ag : ∀ j, (1 ≤ j ∧ j < 48 ∨ 48 + 30 * ix g ≤ j ∧ j < 48 + 30 * ix g + 30) → N' j = N j) (hp : vp_in (N (48 + 30 * ix g + 2)) 8) (hx : vp_in (N (16 + 4 * ix (N (48 + 30 * ix g + 2)) + 1)) 8) (hL : vp_in (N (48 + 30 * ix g + 5)) 13) {j : Nat} (hj : 1 ≤ j ∧ j < 48 ∨ 48 + 30 * ix g ≤ j ∧ j < 48 + 30 * ix g + 30) : dayR N' gone g B j = dayR N gone g B j := by
  have p8 := vi_lt hp
  have x8 := vi_lt hx
  have l13 := vi_lt hL
  have a1 := ag 1 (by omega)
  have a2 := ag 2 (by omega)
  have a3 := ag 3 (by omega)
  have g2 := ag (48 + 30 * ix g + 2) (by omega)
  have g5 := ag (48 + 30 * ix g + 5) (by omega)
  have g6 := ag (48 + 30 * ix g + 6) (by omega)
  generalize hpp : N (48 + 30 * ix g + 2) = p at *
  have t0 := ag (16 + 4 * ix p) (by omega)
  have t1 := ag (16 + 4 * ix p + 1) (by omega)
  have t2 := ag (16 + 4 * ix p + 2) (by omega)
  have t3 := ag (16 + 4 * ix p + 3) (by omega)
  generalize hn : N (16 + 4 * ix p + 1) = n at *
  have t4 := ag (16 + 4 * ix n + 1) (by omega)
  generalize hl : N (48 + 30 * ix g + 5) = l at *
  have o1 : ∀ o : Int32, outN N' g l 6 o = outN N g l 6 o := fun o => by
    unfold outN
    by_cases e : l = 0
    · rw [if_pos e, if_pos e]
    · rw [if_neg e, if_neg e, (o_at hL e (k := 6) (by decide) (by decide)).2, ix_6]
      exact ag _ (by omega)
  have o2 : ∀ o : Int32, outN N' g l 18 o = outN N g l 18 o := fun o => by
    unfold outN
    by_cases e : l = 0
    · rw [if_pos e, if_pos e]
    · rw [if_neg e, if_neg e, (o_at hL e (k := 18) (by decide) (by decide)).2, ix_18]
      exact ag _ (by omega)
  have kk : keepN N' B p g = keepN N B p g := by
    unfold keepN
    simp only [a1, a2, g5, g6, t0, t3, hl]
  have kh : handN N' gone p g = handN N gone p g := by
    unfold handN
    simp only [a3, g5, t0, t1, t4, hl, hn, o1, o2]
  have kn : nameN N' p g l = nameN N p g l := by
    unfold nameN
    simp only [t0, t2, o1]
  have kw : ∀ nm, wrapR N' g nm p j = wrapR N g nm p j := fun nm => by
    unfold wrapR
    rw [g5, hl]
    by_cases e : 12 ≤ l
    · rw [if_pos e, if_pos e]
      exact ag _ hj
    · rw [if_neg e, if_neg e]
      unfold upN
      rw [ag _ hj]
  unfold dayR
  rw [g2, hpp, kk, kh, g5, hl, kn, a3]
  split
  · unfold upN
    rw [ag _ hj]
  · split
    · exact kw _
    · unfold upN
      split
      · rfl
      · exact kw _
theorem dayR_up0 (w : WK N g B b BB rk) (hh : N (48 + 30 * ix g + 3) = 0) : dayR (upN N 0 x) gone g B = upN (dayR N gone g B) 0 x := by
  have hL := w.2.1.2.1
  have hp := w.2.1.2.2.1 (by rw [hh]; decide)
  obtain ⟨e0, e1, -⟩ := w.1.2.2.2.2.2 _ (vi_lt hp.1)
  have k5 : upN N 0 x (48 + 30 * ix g + 5) = N (48 + 30 * ix g + 5) := up_ne (by omega)
  funext j
  by_cases h0 : j = 0
  · subst h0
    rw [up_eq, dayR_0 (by rw [k5]; exact hL) (by omega), up_eq]
  · rw [up_ne h0]
    by_cases hj : 1 ≤ j ∧ j < 48 ∨ 48 + 30 * ix g ≤ j ∧ j < 48 + 30 * ix g + 30
    · exact dayR_cg (N := N) (N' := upN N 0 x) (g := g) (fun i hi => up_ne (by omega)) hp.1 e1 hL hj
    · rw [dayR_fr (by rw [k5]; exact hL) (by omega), dayR_fr hL (by omega), up_ne h0]
theorem stepG_up0 (h : NI N b BB rk) {g : Nat} (hg : g < b) : stepG BB (upN N 0 x) g = upN (stepG BB N g) 0 x := by
  have e := n_ix (n := g) (by have := h.2.1.2.1; omega)
  unfold stepG
  rw [up_ne (by omega)]
  split
  · rename_i hh
    exact dayR_up0 (NI_WK h hg (by rw [hh]; decide)) (by rw [e]; exact hh)
  · rfl
theorem dG_up0 (h : NI N b BB rk) : ∀ n, n ≤ b → dG BB (upN N 0 x) n = upN (dG BB N n) 0 x
  | 0, _ => rfl
  | n + 1, hn => by rw [dG, dG, dG_up0 h n (by omega), stepG_up0 (NI_dG h n (by omega)) (by omega)]
theorem up_up {k : Nat} {x y : Int32} : upN (upN N k x) k y = upN N k y := by
  funext j
  unfold upN
  split <;> rfl
theorem NI_up0 (h : NI N b BB rk) (hx : vp_in x 10000) : NI (upN N 0 x) b BB rk := by
  have ag : ∀ j, ¬ j = 0 → upN N 0 x j = N j := fun j hj => up_ne hj
  obtain ⟨h1, ⟨w1, w2, w3⟩, h3⟩ := h
  refine ⟨?_, ⟨by rw [ag 4 (by omega)]; exact w1, w2, fun g hg => ⟨by rw [sumW_N2 (fun j hj => ag j (by omega))]; exact (w3 g hg).1, fun i hi e => (w3 g hg).2 i hi (by rw [ag _ (by omega)] at e; exact e)⟩⟩, fun g hg => ?_⟩
  · unfold IE at *
    rw [up_eq, ag 3 (by omega), ag 4 (by omega), ag 1 (by omega), ag 2 (by omega)]
    refine ⟨h1.1, h1.2.1, hx, h1.2.2.2.1, h1.2.2.2.2.1, fun q hq => ?_⟩
    rw [ag _ (by omega), ag _ (by omega), ag _ (by omega), ag _ (by omega)]
    exact h1.2.2.2.2.2 q hq
  · obtain ⟨a1, a2, a3⟩ := h3 g hg
    exact ⟨a1, IG_m (fun j _ _ => ag j (by omega)) (okP_3 (ag 3 (by omega))) a2, IX_m (fun j _ _ => ag j (by omega)) a3⟩
theorem dD_up0 : ∀ (k : Nat) (N : Nat → Int32), NI N b BB rk → dD BB b k (upN N 0 x) = upN (dD BB b k N) 0 x
  | 0, _, _ => rfl
  | k + 1, N, h => by rw [dD, dD, dG_up0 h b (Nat.le_refl b), dD_up0 k _ (NI_dG h b (Nat.le_refl b))]
theorem day_s {x : Int32} {k : Nat} (h : x.toInt + k ≤ 9999) (h0 : 0 ≤ x.toInt) : (x + Int32.ofNat k).toInt = x.toInt + k := by rw [i_add (by rw [i_ofNat (by omega)]; omega) (by rw [i_ofNat (by omega)]; omega), i_ofNat (by omega)]
theorem dE_dD : ∀ (k : Nat) (N : Nat → Int32), NI N b BB rk → (N 0).toInt + k ≤ 9999 → dE BB b k N = upN (dD BB b k N) 0 (N 0 + Int32.ofNat k)
  | 0, N, _, _ => by
    rw [dE, dD]
    funext j
    unfold upN
    split
    · rename_i e
      rw [e]
      exact (Int32.add_zero _).symm
    · rfl
  | k + 1, N, h, hk => by
    have n0 := vp_in_iff.mp h.1.2.2.1
    have hG := NI_dG h b (Nat.le_refl b)
    have e0 : dG BB N b 0 = N 0 := dG_lo h (by omega) b (Nat.le_refl b)
    have s1 : (N 0 + 1).toInt = (N 0).toInt + 1 := day_s (k := 1) (by omega) (by omega)
    have hx : vp_in (N 0 + 1) 10000 := vp_in_iff.mpr (by omega)
    rw [dE, dD, e0, dE_dD k _ (NI_up0 hG hx) (by rw [up_eq]; omega), up_eq, dD_up0 k _ hG, up_up]
    congr 1
    refine i_eq ?_
    have s2 := day_s (x := N 0 + 1) (k := k) (by omega) (by omega)
    have s3 := day_s (x := N 0) (k := k + 1) (by omega) (by omega)
    rw [s2, s3, s1]
    omega
end Days
