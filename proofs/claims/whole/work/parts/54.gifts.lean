/-! layer 2: what changes of the gifts and keeps the relation -/
section Gifts
variable {f f' f1 : Nat → Nat → Int32} {c : Nat} {N N' : Nat → Int32} {b : Nat} {BB : Nat → Int32} {rk : Nat → Nat}
theorem RC_GP (h : RC f c N) : ∃ b BB rk, GP f c N b BB rk := h.2.2.2.2.2
theorem RC_N (h : RC f c N) (ag : ∀ j, j < 48 → N' j = N j) (fr : ∀ c', c ≤ c' → c' < c + 12 → f' c' = f c') (hG : GP f' c N' b BB rk) : RC f' c N' := by
  obtain ⟨h1, h2, h3, h4, h5, -⟩ := h
  refine ⟨?_, ?_, ?_, ?_, fun i hi => ?_, b, BB, rk, hG⟩
  · unfold IE at *
    rw [ag 3 (by omega), ag 4 (by omega), ag 0 (by omega), ag 1 (by omega), ag 2 (by omega)]
    refine ⟨h1.1, h1.2.1, h1.2.2.1, h1.2.2.2.1, h1.2.2.2.2.1, fun q hq => ?_⟩
    rw [ag _ (by omega), ag _ (by omega), ag _ (by omega), ag _ (by omega)]
    exact h1.2.2.2.2.2 q hq
  · unfold REN at *
    rw [fr c (by omega) (by omega), ag 3 (by omega), ag 4 (by omega), ag 1 (by omega), ag 2 (by omega)]
    refine ⟨h2.1, h2.2.1, h2.2.2.1, h2.2.2.2.1, fun q hq j hj => ?_⟩
    rw [ag _ (by omega), fr _ (by omega) (by omega)]
    exact h2.2.2.2.2 q hq j hj
  · rw [fr c (by omega) (by omega), ag 0 (by omega)]
    exact h3
  · rw [fr c (by omega) (by omega), ag 5 (by omega)]
    exact h4
  · rw [fr _ (by omega) (by omega), ag _ (by omega)]
    exact ⟨(h5 i hi).1, (h5 i hi).2.elim Or.inl (fun z => Or.inr (okP_3 (ag 3 (by omega)) _ z))⟩
theorem sumW_one {g : Nat} (ag : ∀ j, (j < 48 + 30 * g ∨ 48 + 30 * g + 30 ≤ j) → N' j = N j) (k0 : N' (48 + 30 * g) = N (48 + 30 * g)) (k4 : N' (48 + 30 * g + 4) = N (48 + 30 * g + 4)) (h4 : N (48 + 30 * g + 4) = -1) {g' : Int32} (hg' : vp_in g' 5) : ∀ n, sumW N' BB g' n = sumW N BB g' n
  | 0 => by
    by_cases e : ix g' = g
    · rw [sumW, sumW, e, k0]
    · exact ag _ (by omega)
  | n + 1 => by
    rw [sumW, sumW, sumW_one ag k0 k4 h4 hg' n, ag 2 (by omega)]
    by_cases e : n = g
    · subst e
      rw [k4, h4, if_neg (m1_no hg'), if_neg (m1_no hg')]
    · rw [ag _ (by omega), ag _ (by omega)]
theorem cntW_one {g : Nat} (ag : ∀ j, (j < 48 + 30 * g ∨ 48 + 30 * g + 30 ≤ j) → N' j = N j) (h3 : (N' (48 + 30 * g + 3) = 2) = (N (48 + 30 * g + 3) = 2)) : ∀ n, cntW N' n = cntW N n
  | 0 => rfl
  | n + 1 => by
    rw [cntW, cntW, cntW_one ag h3 n]
    by_cases e : n = g
    · subst e
      simp only [h3]
    · rw [ag _ (by omega)]
/-- one gift changes, not WITHIN another before and behind -/
theorem GP_one {g : Nat} (hG : GP f c N b BB rk) (hg : g < b) (ag : ∀ j, (j < 48 + 30 * g ∨ 48 + 30 * g + 30 ≤ j) → N' j = N j) (k0 : N' (48 + 30 * g) = N (48 + 30 * g)) (k4 : N' (48 + 30 * g + 4) = N (48 + 30 * g + 4)) (h4 : N (48 + 30 * g + 4) = -1) (h3 : (N' (48 + 30 * g + 3) = 2) = (N (48 + 30 * g + 3) = 2)) (fr : ∀ c', c + 12 ≤ c' → c' < c + 27 → ¬ (c + 12 + 3 * g ≤ c' ∧ c' < c + 12 + 3 * g + 3) → f' c' = f c') (hr : RGN f' (c + 12 + 3 * g) N' (Int32.ofNat g) (BB g)) (hi : IG N' g) (hx : IX N' b g) : GP f' c N' b BB rk := by
  obtain ⟨⟨w1, w2, w3⟩, h⟩ := hG
  refine ⟨⟨by rw [ag 4 (by omega)]; exact w1, w2, fun g' hg' => ⟨?_, fun i hi e => (w3 g' hg').2 i hi ?_⟩⟩, fun g' hg' => ?_⟩
  · rw [sumW_one ag k0 k4 h4 (n_in (by omega) (by omega))]
    exact (w3 g' hg').1
  · by_cases e2 : i = g
    · subst e2
      rwa [k4] at e
    · rwa [ag _ (by omega)] at e
  · by_cases e2 : g' = g
    · subst e2
      exact ⟨by rw [cntW_one ag h3]; exact (h g' hg').1, hr, hi, hx⟩
    · obtain ⟨a1, a2, a3, a4⟩ := h g' hg'
      have e := n_ix (n := g') (by omega)
      have l12 : ix (f (c + 12 + 3 * g') 6) ≤ 12 := by
        have := vi_lt a3.2.1
        rw [a2.2.2.1, e]
        omega
      exact ⟨by rw [cntW_one ag h3]; exact a1, RGN_m (fun j _ _ => ag j (by omega)) (fun c' _ _ => fr c' (by omega) (by omega) (by omega)) l12 a2, IG_m (fun j _ _ => ag j (by omega)) (okP_3 (ag 3 (by omega))) a3, IX_m (fun j _ _ => ag j (by omega)) a4⟩
theorem g_num {g : Int32} (hN : N 4 = Int32.ofNat b) (h5 : b ≤ 5) (h0 : ¬ g < 0) (h1 : ¬ N 4 ≤ g) : vp_in g 5 ∧ ix g < b := by
  rw [hN] at h1
  have a1 := nle h1
  have a2 := nl h0
  have l0 : (0 : Int32).toInt = 0 := rfl
  rw [i_ofNat (by omega)] at a1
  refine ⟨vp_in_iff.mpr (by omega), ?_⟩
  rw [ix_toInt]
  omega
theorem GP_gift {g : Int32} (i1 : IE N) (h : GP f 1 N b BB rk) (h0 : ¬ g < 0) (h1 : ¬ N 4 ≤ g) : GK f N g b BB rk := by
  obtain ⟨w, hg⟩ := h
  obtain ⟨v, hb⟩ := g_num w.1 w.2.1 h0 h1
  obtain ⟨-, -, -, -, -, -, -, -, a9⟩ := c_facts (c := 1) (Or.inl rfl)
  obtain ⟨p2, p3⟩ := a9 _ (vi_lt v)
  obtain ⟨g1, g2, g3, g4⟩ := hg _ hb
  rw [n_of v] at g2
  have hc := cntW_le (N := N) b
  have hb5 := w.2.1
  have g2' : RGN f (13 + 3 * ix g) N g (BB (ix g)) := g2
  exact ⟨v, p2, p3.1, p3, g2', g3, g4, w, hb, by omega, fun hh => ⟨i1, g3, g4.2.elim (fun z => absurd z.1 hh) (fun z => z.2), w, rfl, hb, v, by omega⟩⟩
/-- another holder -/
theorem RC_who (h : RC f c N) (hG : GP f c N b BB rk) {g : Nat} {p : Int32} (hg : g < b) (hh : ¬ N (48 + 30 * g + 3) = 2) (hp : okP N p) : RC (u2 f (c + 12 + 3 * g) 5 p) c (upN N (48 + 30 * g + 2) p) ∧ GP (u2 f (c + 12 + 3 * g) 5 p) c (upN N (48 + 30 * g + 2) p) b BB rk := by
  obtain ⟨a1, a2, a3, a4⟩ := hG.2 g hg
  have e := n_ix (n := g) (by have := hG.1.2.1; omega)
  have ag : ∀ j, ¬ j = 48 + 30 * g + 2 → upN N (48 + 30 * g + 2) p j = N j := fun j hj => up_ne hj
  have h12 := vi_lt a3.2.1
  have hx4 : N (48 + 30 * g + 4) = -1 := a4.2.elim (fun z => absurd z.1 hh) (fun z => z.2)
  have hr := who_rel (x := p) a2
  rw [e] at hr
  have q : GP (u2 f (c + 12 + 3 * g) 5 p) c (upN N (48 + 30 * g + 2) p) b BB rk := by
    refine GP_one hG hg (fun j hj => ag j (by omega)) (ag _ (by omega)) (ag _ (by omega)) hx4 (by rw [ag _ (by omega)]) (fun c' _ _ hn => u2_ne (by omega)) hr ?_ ?_
    · unfold IG okP at *
      rw [up_eq, ag _ (by omega), ag _ (by omega), ag 3 (by omega)]
      refine ⟨a3.1, a3.2.1, fun _ => hp, fun i hi => ?_⟩
      rw [ag _ (by omega), ag _ (by omega)]
      exact a3.2.2.2 i hi
    · unfold IX at *
      rw [ag _ (by omega), ag _ (by omega), ag _ (by omega), ag (48 + 30 * g + 4) (by omega)]
      exact ⟨a4.1, Or.inr ⟨hh, hx4⟩⟩
  exact ⟨RC_N h (fun j hj => ag j (by omega)) (fun c' _ _ => u2_ne (by omega)) q, q⟩
/-- the outmost layer off -/
theorem RC_open (h : RC f c N) (hG : GP f c N b BB rk) {g : Nat} {x1 x2 : Nat} (hg : g < b) (hh : ¬ N (48 + 30 * g + 3) = 2) (hl : ¬ N (48 + 30 * g + 5) = 0) (e1 : x1 = 48 + 30 * g + (18 + (ix (N (48 + 30 * g + 5)) - 1))) (e2 : x2 = 48 + 30 * g + (6 + (ix (N (48 + 30 * g + 5)) - 1))) : RC (u2 f (c + 12 + 3 * g) 6 (N (48 + 30 * g + 5) - 1)) c (upN (upN (upN N (48 + 30 * g + 5) (N (48 + 30 * g + 5) - 1)) x1 0) x2 0) := by
  obtain ⟨a1, a2, a3, a4⟩ := hG.2 g hg
  have e := n_ix (n := g) (by have := hG.1.2.1; omega)
  have h12 := vi_lt a3.2.1
  obtain ⟨m1, m2, m3⟩ := m_1 a3.2.1 hl
  have mm := vp_in_iff.mp a3.2.1
  have ml : 0 < ix (N (48 + 30 * g + 5)) := by
    have : ¬ (N (48 + 30 * g + 5)).toInt = 0 := fun z => hl (i_eq (b := 0) z)
    rw [ix_toInt]; omega
  have hx4 : N (48 + 30 * g + 4) = -1 := a4.2.elim (fun z => absurd z.1 hh) (fun z => z.2)
  generalize hn : N (48 + 30 * g + 5) - 1 = n1 at *
  have n13 : vp_in n1 13 := by
    have l0 : (0 : Int32).toInt = 0 := rfl
    have q1 := nl m1
    have q2 := Int32.lt_iff_toInt_lt.mp m2
    exact vp_in_iff.mpr (by omega)
  have ag : ∀ j, ¬ j = 48 + 30 * g + 5 → ¬ j = x1 → ¬ j = x2 → upN (upN (upN N (48 + 30 * g + 5) n1) x1 0) x2 0 j = N j := fun j h1 h2 h3 => by rw [up_ne h3, up_ne h2, up_ne h1]
  have a5 : upN (upN (upN N (48 + 30 * g + 5) n1) x1 0) x2 0 (48 + 30 * g + 5) = n1 := by rw [up_ne (by omega), up_ne (by omega), up_eq]
  refine RC_N h (fun j hj => ag j (by omega) (by omega) (by omega)) (fun c' _ _ => u2_ne (by omega)) (GP_one hG hg (fun j hj => ag j (by omega) (by omega) (by omega)) (ag _ (by omega) (by omega) (by omega)) (ag _ (by omega) (by omega) (by omega)) hx4 (by rw [ag _ (by omega) (by omega) (by omega)]) (fun c' _ _ hn => u2_ne (by omega)) ?_ ?_ ?_)
  · unfold RGN at *
    rw [e] at a2 ⊢
    rw [a5, u2_eq, u2_nk (by decide), u2_nk (by decide), u2_nk (by decide), u2_nk (by decide), u2_nk (by decide), u2_ne (by omega), u2_ne (by omega), ag _ (by omega) (by omega) (by omega), ag _ (by omega) (by omega) (by omega), ag _ (by omega) (by omega) (by omega), ag (48 + 30 * g) (by omega) (by omega) (by omega)]
    refine ⟨a2.1, a2.2.1, rfl, a2.2.2.2.1, a2.2.2.2.2.1, a2.2.2.2.2.2.1, fun i hi => ?_⟩
    rw [ag _ (by omega) (by omega) (by omega), ag _ (by omega) (by omega) (by omega)]
    exact a2.2.2.2.2.2.2 i (by rw [a2.2.2.1]; omega)
  · unfold IG okP at *
    rw [a5, ag _ (by omega) (by omega) (by omega), ag 3 (by omega) (by omega) (by omega), ag (48 + 30 * g + 2) (by omega) (by omega) (by omega)]
    refine ⟨a3.1, n13, a3.2.2.1, fun i hi => ?_⟩
    rw [ag _ (by omega) (by omega) (by omega), ag _ (by omega) (by omega) (by omega)]
    exact a3.2.2.2 i (by omega)
  · unfold IX at *
    rw [a5, ag _ (by omega) (by omega) (by omega), ag _ (by omega) (by omega) (by omega), ag _ (by omega) (by omega) (by omega), ag (48 + 30 * g + 4) (by omega) (by omega) (by omega)]
    exact ⟨a4.1, Or.inr ⟨hh, hx4⟩⟩
theorem of_inj {m n : Nat} (hm : m < 1000) (hn : n < 1000) (h : Int32.ofNat m = Int32.ofNat n) : m = n := by
  have a := n_ix hm
  have b := n_ix hn
  rw [h] at a
  omega
/-- a new gift -/
def begG (f : Nat → Nat → Int32) (q : Nat) (w v p : Int32) : Nat → Nat → Int32 := u2 (u2 (u2 (u2 (u2 (u2 f q 2 w) q 3 v) q 4 0) q 5 p) q 6 0) q 7 0
def addG (f : Nat → Nat → Int32) (c : Nat) (w v p : Int32) : Nat → Nat → Int32 := u2 (begG f (c + 12 + 3 * ix (f c 4)) w v p) c 4 (f c 4 + 1)
def newG (N : Nat → Int32) (n : Nat) (w v p : Int32) : Nat → Int32 := fun j => if j = 4 then N 4 + 1 else if 48 + 30 * n ≤ j ∧ j < 48 + 30 * n + 30 then (if j = 48 + 30 * n then w else if j = 48 + 30 * n + 1 then v else if j = 48 + 30 * n + 2 then p else if j = 48 + 30 * n + 4 then -1 else 0) else N j
theorem sumW_new {w v p : Int32} (hx : ∀ i, i < b → IX N b i) {g : Nat} (hb : b < 5) (hg : g < b) : ∀ n, n ≤ b → sumW (newG N b w v p) (fun g => if g = b then w else BB g) (Int32.ofNat g) n = sumW N BB (Int32.ofNat g) n
  | 0, _ => by
    rw [sumW, sumW, n_ix (by omega)]
    unfold newG
    rw [if_neg (by omega), if_neg (by omega)]
  | n + 1, h => by
    have k : ∀ j, ¬ j = 4 → ¬ (48 + 30 * b ≤ j ∧ j < 48 + 30 * b + 30) → newG N b w v p j = N j := fun j h1 h2 => by unfold newG; rw [if_neg h1, if_neg h2]
    rw [sumW, sumW, sumW_new hx hb hg n (by omega), k _ (by omega) (by omega), k 2 (by omega) (by omega), k _ (by omega) (by omega), if_neg (show ¬ n = b by omega)]
theorem sumW_own {w v p : Int32} (hx : ∀ i, i < b → IX N b i) (hb : b < 5) {B' : Nat → Int32} : ∀ n, n ≤ b → sumW (newG N b w v p) B' (Int32.ofNat b) n = w
  | 0, _ => by
    rw [sumW, n_ix (by omega)]
    unfold newG
    rw [if_neg (by omega), if_pos (by omega), if_pos rfl]
  | n + 1, h => by
    have k : ∀ j, ¬ j = 4 → ¬ (48 + 30 * b ≤ j ∧ j < 48 + 30 * b + 30) → newG N b w v p j = N j := fun j h1 h2 => by unfold newG; rw [if_neg h1, if_neg h2]
    rw [sumW, sumW_own hx hb n (by omega), k _ (by omega) (by omega), if_neg, Int32.add_zero]
    intro z
    rcases (hx n (by omega)).2 with y | y
    · obtain ⟨j, hj, ej⟩ := y.2.2.2
      have := of_inj (by omega) (by omega) (ej.symm.trans z)
      omega
    · exact m1_no (n_in (n := b) (k := 5) hb (by omega)) (y.2.symm.trans z)
theorem RC_newG (h : RC f c N) (hG : GP f c N b BB rk) (hb : b < 5) {w v p : Int32} (hv : vp_in v 100) (hp : okP N p) : RC (addG f c w v p) c (newG N b w v p) := by
  have e4 : f c 4 = Int32.ofNat b := h.2.1.2.1.trans hG.1.1
  have q4 : ix (f c 4) = b := by rw [e4]; exact n_ix (by omega)
  have hN4 : N 4 = Int32.ofNat b := hG.1.1
  have k : ∀ j, ¬ j = 4 → ¬ (48 + 30 * b ≤ j ∧ j < 48 + 30 * b + 30) → newG N b w v p j = N j := fun j h1 h2 => by unfold newG; rw [if_neg h1, if_neg h2]
  have k4 : newG N b w v p 4 = Int32.ofNat (b + 1) := by unfold newG; rw [if_pos rfl, hN4, n_s (by omega)]
  have kg : ∀ i, 4 < i → i < 30 → newG N b w v p (48 + 30 * b + i) = 0 := fun i h1 h2 => by unfold newG; rw [if_neg (by omega), if_pos (by omega), if_neg (by omega), if_neg (by omega), if_neg (by omega), if_neg (by omega)]
  have k0 : newG N b w v p (48 + 30 * b) = w := by unfold newG; rw [if_neg (by omega), if_pos (by omega), if_pos rfl]
  have k1 : newG N b w v p (48 + 30 * b + 1) = v := by unfold newG; rw [if_neg (by omega), if_pos (by omega), if_neg (by omega), if_pos rfl]
  have k2 : newG N b w v p (48 + 30 * b + 2) = p := by unfold newG; rw [if_neg (by omega), if_pos (by omega), if_neg (by omega), if_neg (by omega), if_pos rfl]
  have k3 : newG N b w v p (48 + 30 * b + 3) = 0 := by unfold newG; rw [if_neg (by omega), if_pos (by omega), if_neg (by omega), if_neg (by omega), if_neg (by omega), if_neg (by omega)]
  have k44 : newG N b w v p (48 + 30 * b + 4) = -1 := by unfold newG; rw [if_neg (by omega), if_pos (by omega), if_neg (by omega), if_neg (by omega), if_neg (by omega), if_pos rfl]
  have ok : ∀ x, okP N x → okP (newG N b w v p) x := okP_3 (k 3 (by omega) (by omega))
  have fr : ∀ c', ¬ c' = c → ¬ c' = c + 12 + 3 * b → addG f c w v p c' = f c' := fun c' h1 h2 => by
    unfold addG begG
    rw [q4, u2_ne h1, u2_ne h2, u2_ne h2, u2_ne h2, u2_ne h2, u2_ne h2, u2_ne h2]
  have frc : ∀ i, ¬ i = 4 → addG f c w v p c i = f c i := fun i hi => by
    unfold addG begG
    rw [q4, u2_nk hi, u2_ne (by omega), u2_ne (by omega), u2_ne (by omega), u2_ne (by omega), u2_ne (by omega), u2_ne (by omega)]
  have frc4 : addG f c w v p c 4 = Int32.ofNat (b + 1) := by
    unfold addG
    rw [u2_eq, e4, n_s (by omega)]
  have frq : ∀ i, addG f c w v p (c + 12 + 3 * b) i = if i = 7 then 0 else if i = 6 then 0 else if i = 5 then p else if i = 4 then 0 else if i = 3 then v else if i = 2 then w else f (c + 12 + 3 * b) i := fun i => by
    unfold addG begG
    rw [q4, u2_ne (by omega)]
    simp only [u2_at, true_and]
  obtain ⟨h1, h2, h3, h4, h5, -⟩ := h
  obtain ⟨⟨w1, w2, w3⟩, hg⟩ := hG
  refine ⟨?_, ?_, ?_, ?_, fun i hi => ?_, b + 1, fun g => if g = b then w else BB g, fun g => if g = b then 0 else rk g, ⟨k4, by omega, fun g hgb => ⟨?_, fun i hi e => ?_⟩⟩, fun g hgb => ?_⟩
  · unfold IE at *
    rw [k4, k 3 (by omega) (by omega), k 0 (by omega) (by omega), k 1 (by omega) (by omega), k 2 (by omega) (by omega)]
    refine ⟨h1.1, n_in (by omega) (by omega), h1.2.2.1, h1.2.2.2.1, h1.2.2.2.2.1, fun q hq => ?_⟩
    rw [k _ (by omega) (by omega), k _ (by omega) (by omega), k _ (by omega) (by omega), k _ (by omega) (by omega)]
    exact h1.2.2.2.2.2 q hq
  · unfold REN at *
    rw [frc 3 (by decide), frc4, frc 5 (by decide), frc 6 (by decide), k4, k 3 (by omega) (by omega), k 1 (by omega) (by omega), k 2 (by omega) (by omega)]
    refine ⟨h2.1, rfl, h2.2.2.1, h2.2.2.2.1, fun q hq j hj => ?_⟩
    rw [k _ (by omega) (by omega), fr _ (by omega) (by omega)]
    exact h2.2.2.2.2 q hq j hj
  · rw [frc 7 (by decide), k 0 (by omega) (by omega)]
    exact h3
  · rw [frc 8 (by decide), k 5 (by omega) (by omega)]
    exact h4
  · rw [fr _ (by omega) (by omega), k _ (by omega) (by omega)]
    exact ⟨(h5 i hi).1, (h5 i hi).2.elim Or.inl (fun z => Or.inr (ok _ z))⟩
  · have hm : ¬ (-1 : Int32) = Int32.ofNat g := m1_no (n_in (k := 5) (by omega) (by omega))
    rw [sumW, k44, if_neg hm, Int32.add_zero]
    by_cases e : g = b
    · subst e
      rw [sumW_own (fun i hi => (hg i hi).2.2.2) (by omega) _ (Nat.le_refl _)]
      exact if_pos rfl
    · rw [sumW_new (fun i hi => (hg i hi).2.2.2) (by omega) (by omega) b (Nat.le_refl b)]
      exact (if_neg e).trans (w3 g (by omega)).1
  · have hm : ¬ (-1 : Int32) = Int32.ofNat g := m1_no (n_in (k := 5) (by omega) (by omega))
    by_cases ei : i = b
    · subst ei
      rw [k44] at e
      exact absurd e hm
    · rw [k _ (by omega) (by omega)] at e
      rcases (hg i (by omega)).2.2.2.2 with y | y
      · obtain ⟨j, hj, ej⟩ := y.2.2.2
        have ejg := of_inj (by omega) (by omega) (ej.symm.trans e)
        simp only
        rw [if_neg ei, if_neg (by omega)]
        exact (w3 g (by omega)).2 i (by omega) e
      · exact absurd (y.2.symm.trans e) hm
  · have hcnt : cntW (newG N b w v p) (b + 1) = cntW N b := by
      have hn : ∀ n, n ≤ b → cntW (newG N b w v p) n = cntW N n := by
        intro n
        induction n with
        | zero => intro _; rfl
        | succ n ih =>
          intro hn
          rw [cntW, cntW, ih (by omega), k _ (by omega) (by omega)]
      rw [cntW, hn b (Nat.le_refl b), k3, if_neg (by decide), Nat.add_zero]
    by_cases e : g = b
    · subst e
      refine ⟨by simp only [if_true]; exact Nat.zero_le _, ?_, ?_, ?_⟩
      · unfold RGN
        simp only [frq]
        rw [n_ix (by omega), k0, k1, k2, k3, kg 5 (by omega) (by omega)]
        refine ⟨rfl, rfl, rfl, rfl, rfl, ?_, fun i hi => absurd hi (Nat.not_lt_zero i)⟩
        simp only [Nat.reduceEqDiff, if_true, if_false, Int32.add_zero]
      · unfold IG
        rw [k2, k3, kg 5 (by omega) (by omega)]
        exact ⟨vp_in_iff.mpr (by decide), vp_in_iff.mpr (by decide), fun _ => ok _ hp, fun i hi => absurd hi (Nat.not_lt_zero i)⟩
      · unfold IX
        rw [k1, k3, k44]
        exact ⟨hv, Or.inr ⟨by decide, rfl⟩⟩
    · obtain ⟨a1, a2, a3, a4⟩ := hg g (by omega)
      have en := n_ix (n := g) (by omega)
      have l12 : ix (f (c + 12 + 3 * g) 6) ≤ 12 := by
        have := vi_lt a3.2.1
        rw [a2.2.2.1, en]
        omega
      refine ⟨by simp only [if_neg e]; rw [hcnt]; exact a1, ?_, IG_m (fun j _ _ => k j (by omega) (by omega)) ok a3, ?_⟩
      · simp only [if_neg e]
        exact RGN_m (fun j _ _ => k j (by omega) (by omega)) (fun c' _ _ => fr c' (by omega) (by omega)) l12 a2
      · have q := IX_m (N' := newG N b w v p) (fun j _ _ => k j (by omega) (by omega)) a4
        exact ⟨q.1, q.2.elim (fun z => Or.inl ⟨z.1, z.2.1, z.2.2.1, z.2.2.2.elim (fun j hj => ⟨j, by omega, hj.2⟩)⟩) Or.inr⟩
end Gifts
