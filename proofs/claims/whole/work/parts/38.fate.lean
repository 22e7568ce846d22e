/-! layer 2: walking a gift on: the reference's fate -/
section Fate
variable {d : Nat} {cs : Nat → Nat × (Nat → Int32)} {f : Nat → Nat → Int32} {P : am_T} {N sp : Nat → Int32} {g B gone t s : Int32} {b r : Nat} {BB : Nat → Int32} {rk : Nat → Nat}
theorem dayR_fr2 {k : Nat} (hL : vp_in (N (48 + 30 * ix g + 5)) 13) (k2 : ¬ k = 48 + 30 * ix g + 2) (k3 : ¬ k = 48 + 30 * ix g + 3) (k5 : ¬ k = 48 + 30 * ix g + 5) (h : k < 48 + 30 * ix g + 6 ∨ 48 + 30 * ix g + 30 ≤ k) : dayR N gone g B k = N k := by
  have hw : ∀ n p, wrapR N g n p k = N k := fun n p => by
    unfold wrapR
    split
    · rfl
    · rename_i h12
      have h2 := n12 hL h12
      have hlt := vi_lt h2
      rw [(o_in h2 (k := 6) (by decide) (by decide)).2, (o_in h2 (k := 18) (by decide) (by decide)).2, ix_6, ix_18, up_ne k5, up_ne (by omega), up_ne (by omega)]
  unfold dayR
  split
  · exact up_ne k3
  · split
    · exact hw _ _
    · rw [up_ne k2, hw]
theorem m1_no {g : Int32} {n : Nat} (h : vp_in g n) : ¬ (-1 : Int32) = g := fun z => vi_pos h (z ▸ by decide)
theorem sumW_day (hL : vp_in (N (48 + 30 * ix g + 5)) 13) (hin : N (48 + 30 * ix g + 4) = -1) {g' : Int32} (hg' : vp_in g' 5) : ∀ n, sumW (dayR N gone g B) BB g' n = sumW N BB g' n
  | 0 => dayR_fr2 hL (by omega) (by omega) (by omega) (by omega)
  | n + 1 => by
    rw [sumW, sumW, sumW_day hL hin hg' n, dayR_fr2 hL (k := 48 + 30 * n + 4) (by omega) (by omega) (by omega) (by omega), dayR_fr2 hL (k := 2) (by omega) (by omega) (by omega) (by omega)]
    by_cases e : N (48 + 30 * n + 4) = g'
    · have hne : ¬ n = ix g := fun z => m1_no hg' (by rw [← hin, ← z]; exact e)
      rw [if_pos e, if_pos e, dayR_fr2 hL (k := 48 + 30 * n + 5) (by omega) (by omega) (by omega) (by omega)]
    · rw [if_neg e, if_neg e]
theorem WB_day (hL : vp_in (N (48 + 30 * ix g + 5)) 13) (hin : N (48 + 30 * ix g + 4) = -1) (w : WB N b BB rk) : WB (dayR N gone g B) b BB rk := by
  obtain ⟨w1, w2, w3⟩ := w
  refine ⟨by rw [dayR_fr2 hL (by omega) (by omega) (by omega) (by omega)]; exact w1, w2, fun g' hg' => ⟨?_, fun i hi e => ?_⟩⟩
  · rw [sumW_day hL hin (n_in (by omega) (by omega))]
    exact (w3 g' hg').1
  · rw [dayR_fr2 hL (by omega) (by omega) (by omega) (by omega)] at e
    exact (w3 g' hg').2 i hi e
def WK (N : Nat → Int32) (g B : Int32) (b : Nat) (BB : Nat → Int32) (rk : Nat → Nat) : Prop := IE N ∧ IG N (ix g) ∧ N (48 + 30 * ix g + 4) = -1 ∧ WB N b BB rk ∧ BB (ix g) = B ∧ ix g < b ∧ vp_in g 5 ∧ rk (ix g) < 6
theorem IE_day (hL : vp_in (N (48 + 30 * ix g + 5)) 13) (h : IE N) : IE (dayR N gone g B) := by
  have k : ∀ k, k < 48 → dayR N gone g B k = N k := fun k hk => dayR_fr hL (by omega)
  unfold IE at *
  rw [k 3 (by omega), k 4 (by omega), k 0 (by omega), k 1 (by omega), k 2 (by omega)]
  refine ⟨h.1, h.2.1, h.2.2.1, h.2.2.2.1, h.2.2.2.2.1, fun p hp => ?_⟩
  rw [k _ (by omega), k _ (by omega), k _ (by omega), k _ (by omega)]
  exact h.2.2.2.2.2 p hp
theorem WK_day (w : WK N g B b BB rk) (hh : N (48 + 30 * ix g + 3) = 0) : WK (dayR N gone g B) g B b BB rk := by
  obtain ⟨w1, w2, w3, w4, w5, w6, w7, w8⟩ := w
  refine ⟨IE_day w2.2.1 w1, dayR_ok w1 w2 hh, ?_, WB_day w2.2.1 w3 w4, w5, w6, w7, w8⟩
  rw [dayR_fr2 w2.2.1 (by omega) (by omega) (by omega) (by omega)]
  exact w3
theorem r_day2 (w : WK (f 105) g B b BB rk) (hh : f 105 (48 + 30 * ix g + 3) = 0) (h : P none (mk (setR f (dayR (f 105) (f 104 5) g B)))) : am_call cs (d + 17) 192 [.ref 104, .int g] (mk f) P := by
  obtain ⟨w1, w2, w3, w4, w5, w6, w7, w8⟩ := w
  have hp := w2.2.2.1 (by rw [hh]; decide)
  obtain ⟨e0, e1, -⟩ := w1.2.2.2.2.2 _ (vi_lt hp.1)
  refine r_dayOf (d := d + 12) (B := B) w7 hp.1 e0 e1 w2.2.1 (fun P' h' => ?_) (by rw [dayN_eq]; exact h)
  have q := r_weighs (cs := cs) (d := d) (P := P') w4 w6 w8 (by rw [w5]; exact h')
  rw [n_of w7] at q
  exact q
/-- what the reference's fate moves: the row, what it set aside, how long, who saw it -/
def fm (f : Nat → Nat → Int32) (sp N : Nat → Int32) (t s : Int32) : Nat → Nat → Int32 := fun c k => if c = 105 then N k else if c = 109 then sp k else if c = 104 ∧ k = 7 then t else if c = 104 ∧ k = 8 then s else f c k
theorem fm_id : fm f (f 109) (f 105) (f 104 7) (f 104 8) = f := by
  funext c k
  unfold fm
  split
  · rename_i h; rw [h]
  · split
    · rename_i h; rw [h]
    · split
      · rename_i h; rw [h.1, h.2]
      · split
        · rename_i h; rw [h.1, h.2]
        · rfl
theorem fm_set {N' : Nat → Int32} : setR (fm f sp N t s) N' = fm f sp N' t s := by
  funext c k
  unfold setR fm
  by_cases h : c = 105
  · simp only [h, if_true]
  · simp only [h, if_false]
theorem fm_105 : fm f sp N t s 105 = N := rfl
theorem fm_109 : fm f sp N t s 109 = sp := rfl
theorem fm_1047 : fm f sp N t s 104 7 = t := rfl
theorem fm_1048 : fm f sp N t s 104 8 = s := rfl
theorem fm_1045 : fm f sp N t s 104 5 = f 104 5 := rfl
theorem fm_t {x : Int32} : u2 (fm f sp N t s) 104 7 x = fm f sp N x s := by
  funext c k
  unfold u2 fm
  by_cases h : c = 104 ∧ k = 7
  · obtain ⟨rfl, rfl⟩ := h
    rfl
  · rw [if_neg h]
    simp only [h, if_false]
theorem fm_s {x : Int32} : u2 (fm f sp N t s) 104 8 x = fm f sp N t x := by
  funext c k
  unfold u2 fm
  by_cases h : c = 104 ∧ k = 8
  · obtain ⟨rfl, rfl⟩ := h
    rfl
  · rw [if_neg h]
    simp only [h, if_false]
theorem fm_sp {k : Nat} {x : Int32} : u2 (fm f sp N t s) 109 k x = fm f (upN sp k x) N t s := by
  funext c j
  unfold u2 fm upN
  by_cases h : c = 109
  · subst h
    by_cases h2 : j = k
    · simp [h2]
    · simp [h2]
  · simp [h]
theorem fm_n {k : Nat} {x : Int32} : u2 (fm f sp N t s) 105 k x = fm f sp (upN N k x) t s := by
  rw [show u2 (fm f sp N t s) 105 k x = u2 (setR (fm f sp N t s) N) 105 k x by rw [fm_set], set_up, fm_set]
end Fate
