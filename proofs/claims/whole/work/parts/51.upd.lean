/-! layer 2: what changes of a coast and keeps the relation -/
section Upd
variable {f f' f1 : Nat → Nat → Int32} {c : Nat} {N N' : Nat → Int32} {b : Nat} {BB : Nat → Int32} {rk : Nat → Nat}
def GP (f : Nat → Nat → Int32) (c : Nat) (N : Nat → Int32) (b : Nat) (BB : Nat → Int32) (rk : Nat → Nat) : Prop := WB N b BB rk ∧ ∀ g, g < b → rk g ≤ cntW N b ∧ RGN f (c + 12 + 3 * g) N (Int32.ofNat g) (BB g) ∧ IG N g ∧ IX N b g
def Gs (f : Nat → Nat → Int32) (c : Nat) (N : Nat → Int32) : Prop := ∃ b BB rk, GP f c N b BB rk
theorem sumW_N2 {g : Int32} (ag : ∀ j, (j = 2 ∨ 48 ≤ j) → N' j = N j) : ∀ n, sumW N' BB g n = sumW N BB g n
  | 0 => ag _ (by omega)
  | n + 1 => by rw [sumW, sumW, sumW_N2 ag n, ag _ (by omega), ag 2 (by omega), ag _ (by omega)]
theorem cntW_N2 (ag : ∀ j, 48 ≤ j → N' j = N j) : ∀ n, cntW N' n = cntW N n
  | 0 => rfl
  | n + 1 => by rw [cntW, cntW, cntW_N2 ag n, ag _ (by omega)]
theorem RGN_m {q : Nat} {g B : Int32} (ag : ∀ j, 48 + 30 * ix g ≤ j → j < 48 + 30 * ix g + 30 → N' j = N j) (fr : ∀ c', q ≤ c' → c' < q + 3 → f' c' = f c') (h12 : ix (f q 6) ≤ 12) (h : RGN f q N g B) : RGN f' q N' g B := by
  unfold RGN at *
  rw [fr q (by omega) (by omega), fr (q + 1) (by omega) (by omega), fr (q + 2) (by omega) (by omega), ag _ (by omega) (by omega), ag _ (by omega) (by omega), ag _ (by omega) (by omega), ag _ (by omega) (by omega), ag (48 + 30 * ix g) (by omega) (by omega)]
  refine ⟨h.1, h.2.1, h.2.2.1, h.2.2.2.1, h.2.2.2.2.1, h.2.2.2.2.2.1, fun i hi => ?_⟩
  rw [ag _ (by omega) (by omega), ag _ (by omega) (by omega)]
  exact h.2.2.2.2.2.2 i hi
theorem IG_m {g : Nat} (ag : ∀ j, 48 + 30 * g ≤ j → j < 48 + 30 * g + 30 → N' j = N j) (ok : ∀ x, okP N x → okP N' x) (h : IG N g) : IG N' g := by
  have h12 := vi_lt h.2.1
  unfold IG at *
  rw [ag _ (by omega) (by omega), ag _ (by omega) (by omega), ag _ (by omega) (by omega)]
  refine ⟨h.1, h.2.1, fun y => ok _ (h.2.2.1 y), fun i hi => ?_⟩
  rw [ag _ (by omega) (by omega), ag _ (by omega) (by omega)]
  exact ⟨(h.2.2.2 i hi).1, ok _ (h.2.2.2 i hi).2⟩
theorem IX_m {g : Nat} (ag : ∀ j, 48 + 30 * g ≤ j → j < 48 + 30 * g + 30 → N' j = N j) (h : IX N b g) : IX N' b g := by
  unfold IX at *
  rw [ag _ (by omega) (by omega), ag _ (by omega) (by omega), ag _ (by omega) (by omega), ag _ (by omega) (by omega), ag _ (by omega) (by omega)]
  exact h
theorem Gs_m (ag : ∀ j, (j = 2 ∨ j = 4 ∨ 48 ≤ j) → N' j = N j) (ok : ∀ x, okP N x → okP N' x) (fr : ∀ c', c + 12 ≤ c' → c' < c + 27 → f' c' = f c') (h : Gs f c N) : Gs f' c N' := by
  obtain ⟨b, BB, rk, ⟨w1, w2, w3⟩, h⟩ := h
  refine ⟨b, BB, rk, ⟨by rw [ag 4 (by omega)]; exact w1, w2, fun g hg => ⟨by rw [sumW_N2 (fun j hj => ag j (by omega))]; exact (w3 g hg).1, fun i hi e => (w3 g hg).2 i hi (by rw [ag _ (by omega)] at e; exact e)⟩⟩, fun g hg => ?_⟩
  obtain ⟨a1, a2, a3, a4⟩ := h g hg
  have e := n_ix (n := g) (by omega)
  have l12 : ix (f (c + 12 + 3 * g) 6) ≤ 12 := by
    have := vi_lt a3.2.1
    rw [a2.2.2.1, e]
    omega
  exact ⟨by rw [cntW_N2 (fun j hj => ag j (by omega))]; exact a1, RGN_m (fun j _ _ => ag j (by omega)) (fun c' _ _ => fr c' (by omega) (by omega)) l12 a2, IG_m (fun j _ _ => ag j (by omega)) ok a3, IX_m (fun j _ _ => ag j (by omega)) a4⟩
theorem okP_3 (h : N' 3 = N 3) (x : Int32) (hx : okP N x) : okP N' x := by unfold okP at *; rw [h]; exact hx
theorem RC_trait (h : RC f c N) {p k : Nat} {v : Int32} (hp : p < 8) (hk : k < 4) (hv : (k = 0 → vp_in v 7) ∧ (k = 1 → vp_in v 8) ∧ (k = 2 → vp_in v 8) ∧ (k = 3 → vp_in v 100)) : RC (u2 f (c + 4 + p) k v) c (upN N (16 + 4 * p + k) v) := by
  obtain ⟨h1, h2, h3, h4, h5, h6⟩ := h
  have ag : ∀ j, (j < 16 ∨ 48 ≤ j) → upN N (16 + 4 * p + k) v j = N j := fun j hj => up_ne (by omega)
  refine ⟨?_, ?_, ?_, ?_, fun i hi => ?_, Gs_m (fun j hj => ag j (by omega)) (okP_3 (ag 3 (by omega))) (fun c' _ _ => u2_ne (by omega)) h6⟩
  · unfold IE at *
    rw [ag 3 (by omega), ag 4 (by omega), ag 0 (by omega), ag 1 (by omega), ag 2 (by omega)]
    refine ⟨h1.1, h1.2.1, h1.2.2.1, h1.2.2.2.1, h1.2.2.2.2.1, fun q hq => ?_⟩
    have a := h1.2.2.2.2.2 q hq
    rcases (show k = 0 ∨ k = 1 ∨ k = 2 ∨ k = 3 by omega) with rfl | rfl | rfl | rfl
    · refine ⟨?_, ?_, ?_, ?_⟩ <;> (unfold upN; split <;> first | (exfalso; omega) | exact hv.1 rfl | exact a.1 | exact a.2.1 | exact a.2.2.1 | exact a.2.2.2)
    · refine ⟨?_, ?_, ?_, ?_⟩ <;> (unfold upN; split <;> first | (exfalso; omega) | exact hv.2.1 rfl | exact a.1 | exact a.2.1 | exact a.2.2.1 | exact a.2.2.2)
    · refine ⟨?_, ?_, ?_, ?_⟩ <;> (unfold upN; split <;> first | (exfalso; omega) | exact hv.2.2.1 rfl | exact a.1 | exact a.2.1 | exact a.2.2.1 | exact a.2.2.2)
    · refine ⟨?_, ?_, ?_, ?_⟩ <;> (unfold upN; split <;> first | (exfalso; omega) | exact hv.2.2.2 rfl | exact a.1 | exact a.2.1 | exact a.2.2.1 | exact a.2.2.2)
  · unfold REN at *
    rw [u2_ne (show ¬ c = c + 4 + p by omega), ag 3 (by omega), ag 4 (by omega), ag 1 (by omega), ag 2 (by omega)]
    refine ⟨h2.1, h2.2.1, h2.2.2.1, h2.2.2.2.1, fun q hq j hj => ?_⟩
    by_cases e : q = p ∧ j = k
    · obtain ⟨rfl, rfl⟩ := e
      rw [u2_eq, up_eq]
    · rw [up_ne (by omega)]
      exact (if_neg (fun z => e ⟨by omega, z.2⟩)).trans (h2.2.2.2.2 q hq j hj)
  · rw [u2_ne (by omega), ag 0 (by omega)]
    exact h3
  · rw [u2_ne (by omega), ag 5 (by omega)]
    exact h4
  · rw [u2_ne (by omega), ag _ (by omega)]
    exact ⟨(h5 i hi).1, (h5 i hi).2.elim Or.inl (fun z => Or.inr (okP_3 (ag 3 (by omega)) _ z))⟩
/-- one cell of the coast, one number of the row -/
theorem RC_more (h : RC f c N) (h8 : vp_in (N 3) 8) : RC (u2 f c 3 (N 3 + 1)) c (upN N 3 (N 3 + 1)) := by
  obtain ⟨h1, h2, h3, h4, h5, h6⟩ := h
  have a1 := vp_in_iff.mp h8
  have l1 : (1 : Int32).toInt = 1 := rfl
  have e1 : (N 3 + 1).toInt = (N 3).toInt + 1 := by rw [i_add (by rw [l1]; omega) (by rw [l1]; omega), l1]
  have ag : ∀ j, ¬ j = 3 → upN N 3 (N 3 + 1) j = N j := fun j hj => up_ne hj
  have ok : ∀ x, okP N x → okP (upN N 3 (N 3 + 1)) x := fun x hx => by
    unfold okP at *
    rw [up_eq]
    refine ⟨hx.1, fun z => hx.2 ?_⟩
    have := Int32.le_iff_toInt_le.mp z
    exact Int32.le_iff_toInt_le.mpr (by omega)
  refine ⟨?_, ?_, ?_, ?_, fun i hi => ?_, Gs_m (fun j hj => ag j (by omega)) ok (fun c' _ _ => u2_ne (by omega)) h6⟩
  · unfold IE at *
    rw [up_eq, ag 4 (by omega), ag 0 (by omega), ag 1 (by omega), ag 2 (by omega)]
    refine ⟨vp_in_iff.mpr (by omega), h1.2.1, h1.2.2.1, h1.2.2.2.1, h1.2.2.2.2.1, fun q hq => ?_⟩
    rw [ag _ (by omega), ag _ (by omega), ag _ (by omega), ag _ (by omega)]
    exact h1.2.2.2.2.2 q hq
  · unfold REN at *
    rw [u2_eq, u2_nk (by decide), u2_nk (by decide), u2_nk (by decide), up_eq, ag 4 (by omega), ag 1 (by omega), ag 2 (by omega)]
    refine ⟨rfl, h2.2.1, h2.2.2.1, h2.2.2.2.1, fun q hq j hj => ?_⟩
    rw [ag _ (by omega), u2_ne (by omega)]
    exact h2.2.2.2.2 q hq j hj
  · rw [u2_nk (by decide), ag 0 (by omega)]
    exact h3
  · rw [u2_nk (by decide), ag 5 (by omega)]
    exact h4
  · rw [u2_ne (by omega), ag _ (by omega)]
    exact ⟨(h5 i hi).1, (h5 i hi).2.elim Or.inl (fun z => Or.inr (ok _ z))⟩
theorem RC_law (h : RC f c N) {v : Int32} (hv : vp_in v 21) : RC (u2 f c 5 v) c (upN N 1 v) := by
  obtain ⟨h1, h2, h3, h4, h5, h6⟩ := h
  have ag : ∀ j, ¬ j = 1 → upN N 1 v j = N j := fun j hj => up_ne hj
  refine ⟨?_, ?_, ?_, ?_, fun i hi => ?_, Gs_m (fun j hj => ag j (by omega)) (okP_3 (ag 3 (by omega))) (fun c' _ _ => u2_ne (by omega)) h6⟩
  · unfold IE at *
    rw [up_eq, ag 3 (by omega), ag 4 (by omega), ag 0 (by omega), ag 2 (by omega)]
    refine ⟨h1.1, h1.2.1, h1.2.2.1, hv, h1.2.2.2.2.1, fun q hq => ?_⟩
    rw [ag _ (by omega), ag _ (by omega), ag _ (by omega), ag _ (by omega)]
    exact h1.2.2.2.2.2 q hq
  · unfold REN at *
    rw [u2_eq, u2_nk (by decide), u2_nk (by decide), u2_nk (by decide), up_eq, ag 3 (by omega), ag 4 (by omega), ag 2 (by omega)]
    refine ⟨h2.1, h2.2.1, rfl, h2.2.2.2.1, fun q hq j hj => ?_⟩
    rw [ag _ (by omega), u2_ne (by omega)]
    exact h2.2.2.2.2 q hq j hj
  · rw [u2_nk (by decide), ag 0 (by omega)]
    exact h3
  · rw [u2_nk (by decide), ag 5 (by omega)]
    exact h4
  · rw [u2_ne (by omega), ag _ (by omega)]
    exact ⟨(h5 i hi).1, (h5 i hi).2.elim Or.inl (fun z => Or.inr (okP_3 (ag 3 (by omega)) _ z))⟩
theorem RC_z (h : RC f c N) {v : Int32} : RC (u2 f c 8 v) c (upN N 5 v) := by
  obtain ⟨h1, h2, h3, h4, h5, h6⟩ := h
  have ag : ∀ j, ¬ j = 5 → upN N 5 v j = N j := fun j hj => up_ne hj
  refine ⟨?_, ?_, ?_, ?_, fun i hi => ?_, Gs_m (fun j hj => ag j (by omega)) (okP_3 (ag 3 (by omega))) (fun c' _ _ => u2_ne (by omega)) h6⟩
  · unfold IE at *
    rw [ag 1 (by omega), ag 3 (by omega), ag 4 (by omega), ag 0 (by omega), ag 2 (by omega)]
    refine ⟨h1.1, h1.2.1, h1.2.2.1, h1.2.2.2.1, h1.2.2.2.2.1, fun q hq => ?_⟩
    rw [ag _ (by omega), ag _ (by omega), ag _ (by omega), ag _ (by omega)]
    exact h1.2.2.2.2.2 q hq
  · unfold REN at *
    rw [u2_nk (by decide), u2_nk (by decide), u2_nk (by decide), u2_nk (by decide), ag 1 (by omega), ag 3 (by omega), ag 4 (by omega), ag 2 (by omega)]
    refine ⟨h2.1, h2.2.1, h2.2.2.1, h2.2.2.2.1, fun q hq j hj => ?_⟩
    rw [ag _ (by omega), u2_ne (by omega)]
    exact h2.2.2.2.2 q hq j hj
  · rw [u2_nk (by decide), ag 0 (by omega)]
    exact h3
  · rw [u2_eq, up_eq]
  · rw [u2_ne (by omega), ag _ (by omega)]
    exact ⟨(h5 i hi).1, (h5 i hi).2.elim Or.inl (fun z => Or.inr (okP_3 (ag 3 (by omega)) _ z))⟩
theorem sumW_pap {g v : Int32} (hx : ∀ i, i < b → IX N b i) (hg : ¬ (-1 : Int32) = g) : ∀ n, n ≤ b → sumW (upN N 2 v) BB g n = sumW N BB g n
  | 0, _ => up_ne (by omega)
  | n + 1, h => by
    rw [sumW, sumW, sumW_pap hx hg n (by omega), up_ne (show ¬ 48 + 30 * n + 4 = 2 by omega), up_ne (show ¬ 48 + 30 * n + 5 = 2 by omega), up_eq]
    by_cases e : N (48 + 30 * n + 4) = g
    · have h5 : N (48 + 30 * n + 5) = 0 := (hx n (by omega)).2.elim (fun z => z.2.1) (fun z => absurd (z.2.symm.trans e) hg)
      rw [if_pos e, if_pos e, h5, Int32.mul_zero, Int32.mul_zero]
    · rw [if_neg e, if_neg e]
theorem RC_paper (h : RC f c N) {v : Int32} (hv : vp_in v 10) : RC (u2 f c 6 v) c (upN N 2 v) := by
  obtain ⟨h1, h2, h3, h4, h5, h6⟩ := h
  have ag : ∀ j, ¬ j = 2 → upN N 2 v j = N j := fun j hj => up_ne hj
  refine ⟨?_, ?_, ?_, ?_, fun i hi => ?_, ?_⟩
  · unfold IE at *
    rw [up_eq, ag 3 (by omega), ag 4 (by omega), ag 0 (by omega), ag 1 (by omega)]
    refine ⟨h1.1, h1.2.1, h1.2.2.1, h1.2.2.2.1, hv, fun q hq => ?_⟩
    rw [ag _ (by omega), ag _ (by omega), ag _ (by omega), ag _ (by omega)]
    exact h1.2.2.2.2.2 q hq
  · unfold REN at *
    rw [u2_eq, u2_nk (by decide), u2_nk (by decide), u2_nk (by decide), up_eq, ag 3 (by omega), ag 4 (by omega), ag 1 (by omega)]
    refine ⟨h2.1, h2.2.1, h2.2.2.1, rfl, fun q hq j hj => ?_⟩
    rw [ag _ (by omega), u2_ne (by omega)]
    exact h2.2.2.2.2 q hq j hj
  · rw [u2_nk (by decide), ag 0 (by omega)]
    exact h3
  · rw [u2_nk (by decide), ag 5 (by omega)]
    exact h4
  · rw [u2_ne (by omega), ag _ (by omega)]
    exact ⟨(h5 i hi).1, (h5 i hi).2.elim Or.inl (fun z => Or.inr (okP_3 (ag 3 (by omega)) _ z))⟩
  · obtain ⟨b, BB, rk, ⟨w1, w2, w3⟩, h⟩ := h6
    refine ⟨b, BB, rk, ⟨by rw [ag 4 (by omega)]; exact w1, w2, fun g hg => ⟨?_, fun i hi e => (w3 g hg).2 i hi (by rw [ag _ (by omega)] at e; exact e)⟩⟩, fun g hg => ?_⟩
    · rw [sumW_pap (b := b) (fun i hi => (h i hi).2.2.2) (m1_no (n_in (k := 5) (by omega) (by omega))) b (Nat.le_refl b)]
      exact (w3 g hg).1
    · obtain ⟨a1, a2, a3, a4⟩ := h g hg
      have e := n_ix (n := g) (by omega)
      have l12 : ix (f (c + 12 + 3 * g) 6) ≤ 12 := by
        have := vi_lt a3.2.1
        rw [a2.2.2.1, e]
        omega
      exact ⟨by rw [cntW_N2 (fun j hj => ag j (by omega))]; exact a1, RGN_m (fun j _ _ => ag j (by omega)) (fun c' _ _ => u2_ne (by omega)) l12 a2, IG_m (fun j _ _ => ag j (by omega)) (okP_3 (ag 3 (by omega))) a3, IX_m (fun j _ _ => ag j (by omega)) a4⟩
/-- the end of a call that changes the coast: the class's cells first, then the row -/
theorem R_set (h : R f) (hc : RC f1 1 N') (fr : ∀ c, ¬ (1 ≤ c ∧ c ≤ 27) → f1 c = f c) : R (setR f1 N') := R_mk h (by rw [set_105]; exact RC_fr hc (fun c' _ _ => set_ne (by omega))) (fun c hc h105 => by rw [set_ne h105, fr c hc])
theorem mk_set (h : f1 105 = f 105) : mk f1 = mk (setR f1 (f 105)) := by rw [← h, set_id]
def pst (v : Value) : am_T := fun r2 M2 => r2 = some v ∧ ∃ f2, M2 = mk f2 ∧ R f2
end Upd
