/-! layer 2: skin -/
section Skin
variable {d : Nat} {cs : Nat → Nat × (Nat → Int32)} {f f' f1 : Nat → Nat → Int32} {P : am_T} {c q : Nat} {N : Nat → Int32} {b : Nat} {BB : Nat → Int32} {rk : Nat → Nat} {g p w v i : Int32}
def skC (f : Nat → Nat → Int32) (qi qo : Nat) : Nat → Nat → Int32 := u2 (u2 (u2 f qo 7 (f qo 7 + (f qi 2 + f qi 7))) qi 4 2) qi 5 (-1)
def skN (N : Nat → Int32) (i : Nat) (w : Int32) : Nat → Int32 := upN (upN (upN N (48 + 30 * i + 3) 2) (48 + 30 * i + 2) (-1)) (48 + 30 * i + 4) w
def skB (BB : Nat → Int32) (i o : Nat) : Nat → Int32 := fun g => if g = o then BB o + BB i else BB g
def skR (rk : Nat → Nat) (i o : Nat) : Nat → Nat := fun g => if g = o then max (rk o) (rk i + 1) else rk g
theorem skN_ne {i j : Nat} (h2 : ¬ j = 48 + 30 * i + 2) (h3 : ¬ j = 48 + 30 * i + 3) (h4 : ¬ j = 48 + 30 * i + 4) : skN N i w j = N j := by
  unfold skN
  rw [up_ne h4, up_ne h2, up_ne h3]
theorem skN_2 {i : Nat} : skN N i w (48 + 30 * i + 2) = -1 := by
  unfold skN
  rw [up_ne (by omega), up_eq]
theorem skN_3 {i : Nat} : skN N i w (48 + 30 * i + 3) = 2 := by
  unfold skN
  rw [up_ne (by omega), up_ne (by omega), up_eq]
theorem skN_4 {i : Nat} : skN N i w (48 + 30 * i + 4) = w := by
  unfold skN
  rw [up_eq]
theorem sumW_sk1 {i o g : Nat} (hb : b ≤ 5) (hi : i < b) (ho : o < b) (hio : ¬ i = o) (h4i : N (48 + 30 * i + 4) = -1) (h4o : N (48 + 30 * o + 4) = -1) (hg : g < b) (hgo : ¬ g = o) : ∀ n, n ≤ b → sumW (skN N i (Int32.ofNat o)) (skB BB i o) (Int32.ofNat g) n = sumW N BB (Int32.ofNat g) n
  | 0, _ => by
    rw [sumW, sumW, n_ix (by omega)]
    exact skN_ne (by omega) (by omega) (by omega)
  | n + 1, h => by
    have hm : ¬ (-1 : Int32) = Int32.ofNat g := m1_no (n_in (k := 5) (by omega) (by omega))
    rw [sumW, sumW, sumW_sk1 hb hi ho hio h4i h4o hg hgo n (by omega), skN_ne (j := 2) (by omega) (by omega) (by omega), skN_ne (j := 48 + 30 * n + 5) (by omega) (by omega) (by omega)]
    by_cases e : n = i
    · subst e
      rw [skN_4, h4i, if_neg hm, if_neg (fun z => hgo (of_inj (by omega) (by omega) z).symm)]
    · rw [skN_ne (by omega) (by omega) (by omega)]
      by_cases e2 : n = o
      · subst e2
        rw [h4o, if_neg hm, if_neg hm]
      · unfold skB
        rw [if_neg e2]
theorem sumW_sk2 {i o : Nat} (hb : b ≤ 5) (hi : i < b) (ho : o < b) (hio : ¬ i = o) (h4i : N (48 + 30 * i + 4) = -1) (h4o : N (48 + 30 * o + 4) = -1) (h5 : N (48 + 30 * i + 5) = 0) : ∀ n, n ≤ b → sumW (skN N i (Int32.ofNat o)) (skB BB i o) (Int32.ofNat o) n = sumW N BB (Int32.ofNat o) n + (if i < n then BB i else 0)
  | 0, _ => by
    rw [sumW, sumW, n_ix (by omega), skN_ne (by omega) (by omega) (by omega), if_neg (Nat.not_lt_zero i), Int32.add_zero]
  | n + 1, h => by
    have hm : ¬ (-1 : Int32) = Int32.ofNat o := m1_no (n_in (k := 5) (by omega) (by omega))
    rw [sumW, sumW, sumW_sk2 hb hi ho hio h4i h4o h5 n (by omega), skN_ne (j := 2) (by omega) (by omega) (by omega), skN_ne (j := 48 + 30 * n + 5) (by omega) (by omega) (by omega)]
    by_cases e : n = i
    · subst e
      rw [skN_4, h4i, if_neg hm, if_pos rfl, if_neg (Nat.lt_irrefl n), if_pos (Nat.lt_succ_self n), h5, Int32.mul_zero]
      unfold skB
      rw [if_neg hio]
      simp only [Int32.add_zero]
    · have e3 : (i < n + 1) = (i < n) := propext ⟨fun z => by omega, fun z => by omega⟩
      rw [skN_ne (by omega) (by omega) (by omega)]
      simp only [e3]
      by_cases e2 : n = o
      · subst e2
        rw [h4o, if_neg hm, if_neg hm]
        simp only [Int32.add_zero]
      · unfold skB
        rw [if_neg e2]
        ac_rfl
theorem cntW_sk {i : Nat} (h3 : ¬ N (48 + 30 * i + 3) = 2) : ∀ n, cntW (skN N i w) n = cntW N n + (if i < n then 1 else 0)
  | 0 => rfl
  | n + 1 => by
    rw [cntW, cntW, cntW_sk h3 n]
    by_cases e : n = i
    · subst e
      rw [skN_3, if_pos rfl, if_neg h3, if_neg (Nat.lt_irrefl n), if_pos (Nat.lt_succ_self n)]
    · have e3 : (i < n + 1) = (i < n) := propext ⟨fun z => by omega, fun z => by omega⟩
      rw [skN_ne (by omega) (by omega) (by omega)]
      simp only [e3]
      omega
theorem RC_skin (h : RC f c N) (hG : GP f c N b BB rk) {i o : Nat} (hi : i < b) (ho : o < b) (hio : ¬ i = o) (h3i : N (48 + 30 * i + 3) = 0) (h3o : N (48 + 30 * o + 3) = 0) (h5i : N (48 + 30 * i + 5) = 0) : RC (skC f (c + 12 + 3 * i) (c + 12 + 3 * o)) c (skN N i (Int32.ofNat o)) ∧ GP (skC f (c + 12 + 3 * i) (c + 12 + 3 * o)) c (skN N i (Int32.ofNat o)) b (skB BB i o) (skR rk i o) := by
  obtain ⟨ai1, ai2, ai3, ai4⟩ := hG.2 i hi
  obtain ⟨ao1, ao2, ao3, ao4⟩ := hG.2 o ho
  have hb5 := hG.1.2.1
  have ni := n_ix (n := i) (by omega)
  have no := n_ix (n := o) (by omega)
  rw [RGN, ni] at ai2
  rw [RGN, no] at ao2
  have h4i : N (48 + 30 * i + 4) = -1 := ai4.2.elim (fun z => absurd (h3i.symm.trans z.1) (by decide)) (fun z => z.2)
  have h4o : N (48 + 30 * o + 4) = -1 := ao4.2.elim (fun z => absurd (h3o.symm.trans z.1) (by decide)) (fun z => z.2)
  have h3n : ¬ N (48 + 30 * i + 3) = 2 := by rw [h3i]; decide
  have cnt : cntW (skN N i (Int32.ofNat o)) b = cntW N b + 1 := by rw [cntW_sk h3n, if_pos hi]
  have cle := cntW_le (N := skN N i (Int32.ofNat o)) b
  obtain ⟨⟨w1, w2, w3⟩, hg⟩ := hG
  have hm : ∀ g : Nat, g < b → ¬ (-1 : Int32) = Int32.ofNat g := fun g hg => m1_no (n_in (k := 5) (by omega) (by omega))
  have rkle : ∀ g, g < b → skR rk i o g ≤ cntW (skN N i (Int32.ofNat o)) b := fun g hgb => by
    have a := (hg g hgb).1
    unfold skR
    rw [cnt]
    split <;> omega
  have W : WB (skN N i (Int32.ofNat o)) b (skB BB i o) (skR rk i o) := by
    refine ⟨by rw [skN_ne (by omega) (by omega) (by omega)]; exact w1, w2, fun g hgb => ⟨?_, fun j hj e => ?_⟩⟩
    · by_cases e : g = o
      · subst e
        rw [sumW_sk2 w2 hi ho hio h4i h4o h5i b (Nat.le_refl b), if_pos hi, ← (w3 g hgb).1]
        exact if_pos rfl
      · rw [sumW_sk1 w2 hi ho hio h4i h4o hgb e b (Nat.le_refl b), ← (w3 g hgb).1]
        exact if_neg e
    · by_cases ei : j = i
      · subst ei
        rw [skN_4] at e
        have eg := of_inj (by omega) (by omega) e
        subst eg
        unfold skR
        rw [if_neg hio, if_pos rfl]
        omega
      · rw [skN_ne (by omega) (by omega) (by omega)] at e
        have hjo : ¬ j = o := fun z => by
          subst z
          rw [h4o] at e
          exact hm g hgb e
        have q := (w3 g hgb).2 j hj e
        unfold skR
        rw [if_neg hjo]
        split
        · rename_i z
          subst z
          omega
        · exact q
  have ok : ∀ x, okP N x → okP (skN N i (Int32.ofNat o)) x := okP_3 (skN_ne (by omega) (by omega) (by omega))
  have fr : ∀ c', ¬ c' = c + 12 + 3 * i → ¬ c' = c + 12 + 3 * o → skC f (c + 12 + 3 * i) (c + 12 + 3 * o) c' = f c' := fun c' h1 h2 => by
    unfold skC
    rw [u2_ne h1, u2_ne h1, u2_ne h2]
  suffices Q : ∀ g, g < b → RGN (skC f (c + 12 + 3 * i) (c + 12 + 3 * o)) (c + 12 + 3 * g) (skN N i (Int32.ofNat o)) (Int32.ofNat g) (skB BB i o g) ∧ IG (skN N i (Int32.ofNat o)) g ∧ IX (skN N i (Int32.ofNat o)) b g from
    have q : GP (skC f (c + 12 + 3 * i) (c + 12 + 3 * o)) c (skN N i (Int32.ofNat o)) b (skB BB i o) (skR rk i o) := ⟨W, fun g hgb => ⟨rkle g hgb, Q g hgb⟩⟩
    ⟨RC_N h (fun j hj => skN_ne (by omega) (by omega) (by omega)) (fun c' _ _ => fr c' (by omega) (by omega)) q, q⟩
  intro g hgb
  obtain ⟨a1, a2, a3, a4⟩ := hg g hgb
  have ng := n_ix (n := g) (by omega)
  by_cases ei : g = i
  · subst ei
    refine ⟨?_, ?_, ?_⟩
    · unfold RGN skC
      rw [ng, skN_3, skN_2, skN_ne (by omega) (by omega) (by omega), skN_ne (by omega) (by omega) (by omega), skN_ne (j := 48 + 30 * g) (by omega) (by omega) (by omega)]
      rw [u2_eq, u2_nk (by decide), u2_eq, u2_nk (by decide), u2_nk (by decide), u2_nk (by decide), u2_nk (by decide), u2_nk (by decide), u2_nk (by decide), u2_nk (by decide), u2_nk (by decide), u2_ne (show ¬ c + 12 + 3 * g = c + 12 + 3 * o by omega)]
      refine ⟨rfl, rfl, ai2.2.2.1, ai2.2.2.2.1, ai2.2.2.2.2.1, ?_, fun j hj => ?_⟩
      · unfold skB
        rw [if_neg hio]
        exact ai2.2.2.2.2.2.1
      · rw [ai2.2.2.1, h5i] at hj
        exact absurd hj (Nat.not_lt_zero j)
    · unfold IG
      rw [skN_3, skN_2, skN_ne (by omega) (by omega) (by omega), h5i]
      exact ⟨vp_in_iff.mpr (by decide), vp_in_iff.mpr (by decide), fun z => absurd rfl z, fun j hj => absurd hj (Nat.not_lt_zero j)⟩
    · unfold IX
      rw [skN_3, skN_2, skN_4, skN_ne (by omega) (by omega) (by omega), skN_ne (by omega) (by omega) (by omega)]
      exact ⟨a4.1, Or.inl ⟨rfl, h5i, rfl, o, ho, rfl⟩⟩
  · have ag : ∀ j, 48 + 30 * g ≤ j → j < 48 + 30 * g + 30 → skN N i (Int32.ofNat o) j = N j := fun j h1 h2 => skN_ne (by omega) (by omega) (by omega)
    refine ⟨?_, IG_m ag ok a3, IX_m ag a4⟩
    have l12 : ix (f (c + 12 + 3 * g) 6) ≤ 12 := by
      have := vi_lt a3.2.1
      rw [a2.2.2.1, ng]
      omega
    by_cases eo : g = o
    · subst eo
      unfold RGN skC
      rw [ng, u2_ne (show ¬ c + 12 + 3 * g = c + 12 + 3 * i by omega), u2_ne (show ¬ c + 12 + 3 * g = c + 12 + 3 * i by omega), u2_ne (show ¬ c + 12 + 3 * g + 1 = c + 12 + 3 * i by omega), u2_ne (show ¬ c + 12 + 3 * g + 1 = c + 12 + 3 * i by omega), u2_ne (show ¬ c + 12 + 3 * g + 2 = c + 12 + 3 * i by omega), u2_ne (show ¬ c + 12 + 3 * g + 2 = c + 12 + 3 * i by omega), u2_ne (show ¬ c + 12 + 3 * g + 1 = c + 12 + 3 * g by omega), u2_ne (show ¬ c + 12 + 3 * g + 2 = c + 12 + 3 * g by omega)]
      rw [u2_nk (by decide), u2_nk (by decide), u2_nk (by decide), u2_nk (by decide), u2_nk (by decide), u2_eq]
      rw [ag _ (by omega) (by omega), ag _ (by omega) (by omega), ag _ (by omega) (by omega), ag _ (by omega) (by omega), ag (48 + 30 * g) (by omega) (by omega)]
      refine ⟨ao2.1, ao2.2.1, ao2.2.2.1, ao2.2.2.2.1, ao2.2.2.2.2.1, ?_, fun j hj => ?_⟩
      · unfold skB
        rw [if_pos rfl, ← ao2.2.2.2.2.2.1, ← ai2.2.2.2.2.2.1]
        ac_rfl
      · have hj12 : j < 12 := by
          have := vi_lt ao3.2.1
          rw [ao2.2.2.1] at hj
          omega
        rw [ag _ (by omega) (by omega), ag _ (by omega) (by omega)]
        exact ao2.2.2.2.2.2.2 j hj
    · have q := RGN_m (N' := skN N i (Int32.ofNat o)) (f' := skC f (c + 12 + 3 * i) (c + 12 + 3 * o)) (fun j h1 h2 => ag j (by omega) (by omega)) (fun c' _ _ => fr c' (by omega) (by omega)) l12 a2
      unfold skB
      rw [if_neg eo]
      exact q
end Skin
