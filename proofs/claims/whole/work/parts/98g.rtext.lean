/-! layer 2: the reference's text: the items -/
section RText
variable {d : Nat} {cs : Nat → Nat × (Nat → Int32)} {f f' f0 f1 f2 : Nat → Nat → Int32} {P : am_T} {B : Nat → Int32} {L n t t' p q e j i : Nat} {k lo hi a b c l1 l2 l3 o : Int32} {K S E V N : Nat → Int32} {x : Int32 × Int32 × Int32 × Int32} {xs : List (Int32 × Int32 × Int32 × Int32)}
def bd (N : Nat → Int32) : Prop := vp_in (N 3) 9 ∧ vp_in (N 4) 6 ∧ vp_in (N 1) 21 ∧ vp_in (N 2) 10
def okI (N : Nat → Int32) (x : Int32 × Int32 × Int32 × Int32) : Prop := (x.1 = 10 ∧ vp_in (N 4) 5) ∨ x.1 = 11 ∨ x.1 = 12 ∨ (vp_in x.1 7 ∧ vp_in (N 3) 8)
theorem v_up {a : Int32} {m : Nat} (h : vp_in a m) (hm : m ≤ 1000) : vp_in (a + 1) (m + 1) := by
  have q := vp_in_iff.mp h
  have l1 : (1 : Int32).toInt = 1 := rfl
  have e : (a + 1).toInt = a.toInt + 1 := by rw [i_add (by rw [l1]; omega) (by rw [l1]; omega), l1]
  exact vp_in_iff.mpr (by omega)
theorem newP_o {k a w0 g0 : Int32} {m : Nat} (hm : m < 3) : newP N k a w0 g0 m = N m := by
  unfold newP
  rw [up_ne (by omega), up_ne (by omega), up_ne (by omega), up_ne (by omega), up_ne (by omega)]
theorem newG_o {m z : Nat} (hz : z < 3) : newG N m a b c z = N z := by
  unfold newG
  rw [if_neg (by omega), if_neg (by omega)]
theorem bd_P (h : bd N) (h8 : vp_in (N 3) 8) (hk : vp_in k 7) : bd (apI N (k, a, b, c)) := by
  rw [apP hk]
  unfold bd
  rw [newP_n, newP_4, newP_o (by decide), newP_o (by decide)]
  exact ⟨v_up h8 (by decide), h.2.1, h.2.2.1, h.2.2.2⟩
theorem bd_G (h : bd N) (h5 : vp_in (N 4) 5) : bd (apI N (10, a, b, c)) := by
  rw [apG]
  unfold bd
  rw [newG_3, newG_4, newG_o (by decide), newG_o (by decide)]
  exact ⟨h.1, v_up h5 (by decide), h.2.2.1, h.2.2.2⟩
theorem bd_L (h : bd N) (hv : vp_in a 21) : bd (apI N (11, a, b, c)) := by
  rw [apL]
  unfold bd
  rw [up_3.1, up_3.2.1, up_eq, up_ne (by decide)]
  exact ⟨h.1, h.2.1, hv, h.2.2.2⟩
theorem bd_W (h : bd N) (hv : vp_in a 10) : bd (apI N (12, a, b, c)) := by
  rw [apW]
  unfold bd
  rw [up_3.2.2.1, up_3.2.2.2, up_eq, up_ne (by decide)]
  exact ⟨h.1, h.2.1, h.2.2.1, hv⟩
theorem rdI_bd (h : bd N) (r : rdI K V N t = .ok (x, t')) : bd (apI N x) ∧ okI N x := by
  have b3 := vp_in_iff.mp h.1
  have b4 := vp_in_iff.mp h.2.1
  unfold rdI at r
  split at r
  · split at r
    · unfold rdG at r
      split at r
      · rename_i g
        have h5 : vp_in (N 4) 5 := vp_in_iff.mpr (by
          have := nle g.1
          rw [show (5 : Int32).toInt = 5 from rfl] at this
          omega)
        split at r
        · exact absurd r (by simp)
        · split at r
          · exact absurd r (by simp)
          · split at r
            · exact absurd r (by simp)
            · injection r with r
              injection r with r1 r2
              subst r1
              exact ⟨bd_G h h5, Or.inl ⟨rfl, h5⟩⟩
      · exact absurd r (by simp)
    · split at r
      · split at r
        · exact absurd r (by simp)
        · rename_i r0
          injection r with r
          injection r with r1 r2
          subst r1
          exact ⟨bd_L h (rdN_in (by decide) (by decide) r0), Or.inr (Or.inl rfl)⟩
      · split at r
        · split at r
          · exact absurd r (by simp)
          · rename_i r0
            injection r with r
            injection r with r1 r2
            subst r1
            exact ⟨bd_W h (rdN_in (by decide) (by decide) r0), Or.inr (Or.inr (Or.inl rfl))⟩
        · split at r
          · rename_i g
            have hk : vp_in (V t) 7 := vp_in_iff.mpr (by
              have q1 := nl g.1
              have q2 := nl g.2
              rw [show (0 : Int32).toInt = 0 from rfl] at q1
              rw [show (6 : Int32).toInt = 6 from rfl] at q2
              omega)
            unfold rdM at r
            split at r
            · rename_i n8
              have h8 : vp_in (N 3) 8 := vp_in_iff.mpr ⟨b3.1, Classical.byContradiction (fun w => n8 (i_eq (by rw [show (8 : Int32).toInt = 8 from rfl]; omega)))⟩
              split at r
              · exact absurd r (by simp)
              · split at r
                · exact absurd r (by simp)
                · split at r
                  · exact absurd r (by simp)
                  · injection r with r
                    injection r with r1 r2
                    subst r1
                    exact ⟨bd_P h h8 hk, Or.inr (Or.inr (Or.inr ⟨hk, h8⟩))⟩
            · exact absurd r (by simp)
          · exact absurd r (by simp)
  · exact absurd r (by simp)
def CH : (Nat → Int32) → List (Int32 × Int32 × Int32 × Int32) → Prop
  | _, [] => True
  | N, x :: xs => bd N ∧ okI N x ∧ CH (apI N x) xs
theorem rdL_CH : ∀ (m : Nat) (N : Nat → Int32) (t : Nat) (xs : List (Int32 × Int32 × Int32 × Int32)), bd N → rdL K V m N t = .ok xs → CH N xs := by
  intro m
  induction m with
  | zero => intro N t xs h r; exact absurd r (by simp [rdL])
  | succ m ih =>
    intro N t xs h r
    rw [rdL] at r
    split at r
    · exact absurd r (by simp)
    · rename_i x t' r0
      have q := rdI_bd h r0
      split at r
      · injection r with r
        subst r
        exact ⟨h, q.2, trivial⟩
      · split at r
        · split at r
          · exact absurd r (by simp)
          · rename_i r2
            injection r with r
            subst r
            exact ⟨h, q.2, ih _ _ _ q.1 r2⟩
        · exact absurd r (by simp)
/-- the items that are written -/
def IT (f : Nat → Nat → Int32) (xs : List (Int32 × Int32 × Int32 × Int32)) : Prop := ∀ j x, xs[j]? = some x → f 113 (4 * j) = x.1 ∧ f 113 (4 * j + 1) = x.2.1 ∧ f 113 (4 * j + 2) = x.2.2.1 ∧ f 113 (4 * j + 3) = x.2.2.2
theorem IT_fr (h : IT f xs) (e : f' 113 = f 113) : IT f' xs := fun j x hx => by rw [e]; exact h j x hx
theorem IT_add (h : IT f xs) : IT (itF f xs.length x.1 x.2.1 x.2.2.1 x.2.2.2) (xs ++ [x]) := by
  intro j y hy
  unfold itF
  rw [u2_ne (show ¬ 113 = 104 by decide)]
  by_cases lt : j < xs.length
  · rw [List.getElem?_append_left lt] at hy
    rw [u2_nk (by omega), u2_nk (by omega), u2_nk (by omega), u2_nk (by omega), u2_nk (by omega), u2_nk (by omega), u2_nk (by omega), u2_nk (by omega), u2_nk (by omega), u2_nk (by omega), u2_nk (by omega), u2_nk (by omega), u2_nk (by omega), u2_nk (by omega), u2_nk (by omega), u2_nk (by omega)]
    exact h j y hy
  · rw [List.getElem?_append_right (by omega)] at hy
    by_cases ej : j = xs.length
    · rw [ej, Nat.sub_self] at hy
      simp only [List.getElem?_cons_zero, Option.some.injEq] at hy
      subst hy
      subst ej
      refine ⟨?_, ?_, ?_, u2_eq⟩
      · rw [u2_nk (by omega), u2_nk (by omega), u2_nk (by omega), u2_eq]
      · rw [u2_nk (by omega), u2_nk (by omega), u2_eq]
      · rw [u2_nk (by omega), u2_eq]
    · obtain ⟨z, hz⟩ : ∃ z, j - xs.length = z + 1 := ⟨j - xs.length - 1, by omega⟩
      rw [hz] at hy
      simp at hy
end RText
