/-! layer 2: what a scan holds to -/
section Scan
variable {B : Nat → Int32} {i n p m : Nat} {K S E V K' S' E' V' : Nat → Int32} {k s e v kb : Int32}
def dv (B : Nat → Int32) (q : Nat) : Nat → Int32
  | 0 => 0
  | m + 1 => dst (dv B q m) (B (q + m))
def TKK (B : Nat → Int32) (i p : Nat) (k s e v : Int32) : Prop := (vp_in s 121) ∧ (vp_in e 121) ∧ (p ≤ ix s) ∧ (ix s < ix e) ∧ (ix e ≤ i) ∧ (∀ j, p ≤ j → j < ix s → cK (B j) = 5) ∧ (¬ k = 5) ∧ (∀ j, ix s ≤ j → j < ix e → cK (B j) = k) ∧ (k = 1 ∨ k = 2 → ix e = i ∨ ¬ cK (B (ix e)) = k) ∧ (k = 1 ∨ k = 2 ∨ ix e = ix s + 1) ∧ (k = 2 → v = dv B (ix s) (ix e - ix s))
theorem TKK.vs {B : Nat → Int32} {i p : Nat} {k s e v : Int32} (h : TKK B i p k s e v) : vp_in s 121 := h.1
theorem TKK.ve {B : Nat → Int32} {i p : Nat} {k s e v : Int32} (h : TKK B i p k s e v) : vp_in e 121 := h.2.1
theorem TKK.ps {B : Nat → Int32} {i p : Nat} {k s e v : Int32} (h : TKK B i p k s e v) : p ≤ ix s := h.2.2.1
theorem TKK.se {B : Nat → Int32} {i p : Nat} {k s e v : Int32} (h : TKK B i p k s e v) : ix s < ix e := h.2.2.2.1
theorem TKK.ei {B : Nat → Int32} {i p : Nat} {k s e v : Int32} (h : TKK B i p k s e v) : ix e ≤ i := h.2.2.2.2.1
theorem TKK.bl {B : Nat → Int32} {i p : Nat} {k s e v : Int32} (h : TKK B i p k s e v) : ∀ j, p ≤ j → j < ix s → cK (B j) = 5 := h.2.2.2.2.2.1
theorem TKK.k5 {B : Nat → Int32} {i p : Nat} {k s e v : Int32} (h : TKK B i p k s e v) : ¬ k = 5 := h.2.2.2.2.2.2.1
theorem TKK.kk {B : Nat → Int32} {i p : Nat} {k s e v : Int32} (h : TKK B i p k s e v) : ∀ j, ix s ≤ j → j < ix e → cK (B j) = k := h.2.2.2.2.2.2.2.1
theorem TKK.mx {B : Nat → Int32} {i p : Nat} {k s e v : Int32} (h : TKK B i p k s e v) : k = 1 ∨ k = 2 → ix e = i ∨ ¬ cK (B (ix e)) = k := h.2.2.2.2.2.2.2.2.1
theorem TKK.on {B : Nat → Int32} {i p : Nat} {k s e v : Int32} (h : TKK B i p k s e v) : k = 1 ∨ k = 2 ∨ ix e = ix s + 1 := h.2.2.2.2.2.2.2.2.2.1
theorem TKK.vv {B : Nat → Int32} {i p : Nat} {k s e v : Int32} (h : TKK B i p k s e v) : k = 2 → v = dv B (ix s) (ix e - ix s) := h.2.2.2.2.2.2.2.2.2.2
def pE (E : Nat → Int32) : Nat → Nat
  | 0 => 0
  | t + 1 => ix (E t)
def SC (B : Nat → Int32) (i n : Nat) (K S E V : Nat → Int32) : Prop := (n ≤ pE E n) ∧ (pE E n ≤ i) ∧ (∀ t, t < n → TKK B i (pE E t) (K t) (S t) (E t) (V t)) ∧ (∀ j, pE E n ≤ j → j < i → cK (B j) = 5)
theorem SC.nl {B : Nat → Int32} {i n : Nat} {K S E V : Nat → Int32} (h : SC B i n K S E V) : n ≤ pE E n := h.1
theorem SC.pl {B : Nat → Int32} {i n : Nat} {K S E V : Nat → Int32} (h : SC B i n K S E V) : pE E n ≤ i := h.2.1
theorem SC.tk {B : Nat → Int32} {i n : Nat} {K S E V : Nat → Int32} (h : SC B i n K S E V) : ∀ t, t < n → TKK B i (pE E t) (K t) (S t) (E t) (V t) := h.2.2.1
theorem SC.bl {B : Nat → Int32} {i n : Nat} {K S E V : Nat → Int32} (h : SC B i n K S E V) : ∀ j, pE E n ≤ j → j < i → cK (B j) = 5 := h.2.2.2
theorem TKK_mono (h : TKK B i p k s e v) (hm : k = 1 ∨ k = 2 → ix e = i → ¬ cK (B i) = k) : TKK B (i + 1) p k s e v :=
  ⟨h.vs, h.ve, h.ps, h.se, Nat.le_succ_of_le h.ei, h.bl, h.k5, h.kk, fun z => Or.inr ((h.mx z).elim (fun y => by rw [y]; exact hm z y) id), h.on, h.vv⟩
theorem pE_ag (h : ∀ t, t < n → E' t = E t) : ∀ t, t ≤ n → pE E' t = pE E t
  | 0, _ => rfl
  | t + 1, ht => by rw [pE, pE, h t (by omega)]
theorem SC_0 : SC B 0 0 K S E V := ⟨Nat.le_refl _, Nat.le_refl _, fun t ht => absurd ht (by omega), fun j _ hj => absurd hj (by omega)⟩
theorem SC_blank (h : SC B i n K S E V) (hb : cK (B i) = 5) : SC B (i + 1) n K S E V := by
  refine ⟨h.nl, Nat.le_succ_of_le h.pl, fun t ht => TKK_mono (h.tk t ht) (fun z _ q => (h.tk t ht).k5 (q.symm.trans hb)), fun j a b => ?_⟩
  by_cases e : j = i
  · rw [e]; exact hb
  · exact h.bl j a (by omega)
theorem SC_new (h : SC B i n K S E V) (hi : i < 120) (h5 : ¬ cK (B i) = 5) (hg : cK (B i) = 1 ∨ cK (B i) = 2 → i = 0 ∨ ¬ cK (B (i - 1)) = cK (B i)) (hK : K' n = cK (B i)) (hS : S' n = Int32.ofNat i) (hE : E' n = Int32.ofNat (i + 1)) (hV : cK (B i) = 2 → V' n = dst 0 (B i)) (aK : ∀ t, t < n → K' t = K t) (aS : ∀ t, t < n → S' t = S t) (aE : ∀ t, t < n → E' t = E t) (aV : ∀ t, t < n → V' t = V t) : SC B (i + 1) (n + 1) K' S' E' V' := by
  have q := pE_ag aE
  have ee : ix (E' n) = i + 1 := by rw [hE, n_ix (by omega)]
  have es : ix (S' n) = i := by rw [hS, n_ix (by omega)]
  refine ⟨?_, ?_, fun t ht => ?_, fun j a b => ?_⟩
  · rw [pE, ee]
    have a := h.nl
    have b := h.pl
    omega
  · rw [pE, ee]
    exact Nat.le_refl _
  · by_cases et : t = n
    · subst et
      rw [q t (Nat.le_refl _)]
      refine ⟨by rw [hS]; exact n_in (by omega) (by omega), by rw [hE]; exact n_in (by omega) (by omega), by rw [es]; exact h.pl, by rw [es, ee]; omega, by rw [ee]; exact Nat.le_refl _, fun j a b => h.bl j a (by omega), by rw [hK]; exact h5, fun j a b => ?_, fun _ => Or.inl ee, Or.inr (Or.inr (by rw [es, ee])), fun z => ?_⟩
      · rw [hK, show j = i by omega]
      · rw [hK] at z
        rw [hV z, es, ee, show i + 1 - i = 0 + 1 by omega, dv, dv]
        rfl
    · have ht' : t < n := by omega
      have b := h.tk t ht'
      rw [q t (by omega), aK t ht', aS t ht', aE t ht', aV t ht']
      refine TKK_mono b (fun z y w => ?_)
      have g := b.kk (i - 1) (by have := b.se; omega) (by have := b.se; omega)
      rcases hg (by rw [w]; exact z) with g0 | g1
      · have := b.se
        omega
      · exact g1 (g.trans w.symm)
  · rw [pE, ee] at a
    omega
theorem SC_last (h : SC B i n K S E V) (h0 : 0 < i) (h5 : ¬ cK (B (i - 1)) = 5) : ∃ m, n = m + 1 ∧ K m = cK (B (i - 1)) ∧ ix (E m) = i := by
  have pi : pE E n = i := Classical.byContradiction (fun z => h5 (h.bl (i - 1) (by have := h.pl; omega) (by omega)))
  cases n with
  | zero =>
    rw [pE] at pi
    omega
  | succ m =>
    rw [pE] at pi
    have b := h.tk m (by omega)
    exact ⟨m, rfl, (b.kk (i - 1) (by have := b.se; omega) (by omega)).symm, pi⟩
theorem SC_ext (h : SC B i (m + 1) K S E V) (hi : i < 120) (hk : cK (B i) = K m) (hk2 : K m = 1 ∨ K m = 2) (he : ix (E m) = i) (hE : E' m = Int32.ofNat (i + 1)) (hV : K m = 2 → V' m = dst (V m) (B i)) (aE : ∀ t, t < m → E' t = E t) (aV : ∀ t, t < m → V' t = V t) : SC B (i + 1) (m + 1) K S E' V' := by
  have q := pE_ag aE
  have ee : ix (E' m) = i + 1 := by rw [hE, n_ix (by omega)]
  refine ⟨?_, ?_, fun t ht => ?_, fun j a b => ?_⟩
  · rw [pE, ee]
    have a := h.nl
    rw [pE, he] at a
    omega
  · rw [pE, ee]
    exact Nat.le_refl _
  · by_cases et : t = m
    · subst et
      have b := h.tk t (by omega)
      rw [q t (Nat.le_refl _)]
      have bse := b.se
      refine ⟨b.vs, by rw [hE]; exact n_in (by omega) (by omega), b.ps, by rw [ee]; omega, by rw [ee]; exact Nat.le_refl _, b.bl, b.k5, fun j x y => ?_, fun _ => Or.inl ee, hk2.elim Or.inl (fun z => Or.inr (Or.inl z)), fun z => ?_⟩
      · by_cases ej : j = i
        · rw [ej]; exact hk
        · exact b.kk j x (by omega)
      · rw [hV z, b.vv z, ee, show i + 1 - ix (S t) = (ix (E t) - ix (S t)) + 1 by omega, dv, show ix (S t) + (ix (E t) - ix (S t)) = i by omega]
    · have ht' : t < m := by omega
      have b := h.tk t (by omega)
      have b2 := h.tk m (by omega)
      rw [q t (by omega), aE t ht', aV t ht']
      have pm : pE E (t + 1) ≤ pE E m := by
        have mono : ∀ a d, a + d ≤ m → pE E a ≤ pE E (a + d) := by
          intro a d
          induction d with
          | zero => intro _; exact Nat.le_refl _
          | succ d ih =>
            intro hd
            have := ih (by omega)
            have b3 := h.tk (a + d) (by omega)
            have x1 := b3.ps
            have x2 := b3.se
            show pE E a ≤ ix (E (a + d))
            omega
        have := mono (t + 1) (m - (t + 1)) (by omega)
        rw [show t + 1 + (m - (t + 1)) = m by omega] at this
        exact this
      rw [pE] at pm
      refine TKK_mono b (fun z y w => ?_)
      have x1 := b2.ps
      have x2 := b2.se
      omega
  · rw [pE, ee] at a
    omega
end Scan
