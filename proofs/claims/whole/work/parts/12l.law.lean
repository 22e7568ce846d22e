theorem am_chl_0 : ((am_k258.drop 0).take 60).all (am_ce 258) = true := by decide +kernel
theorem am_chl_1 : ((am_k258.drop 60).take 60).all (am_ce 258) = true := by decide +kernel
theorem am_chl_2 : ((am_k258.drop 120).take 60).all (am_ce 258) = true := by decide +kernel
theorem am_chl_3 : ((am_k258.drop 180).take 60).all (am_ce 258) = true := by decide +kernel
theorem am_chl_4 : ((am_k258.drop 240).take 60).all (am_ce 258) = true := by decide +kernel
theorem am_chl_5 : ((am_k258.drop 300).take 60).all (am_ce 258) = true := by decide +kernel
theorem am_chl_6 : ((am_k258.drop 360).take 60).all (am_ce 258) = true := by decide +kernel
theorem am_chl_7 : ((am_k258.drop 420).take 60).all (am_ce 258) = true := by decide +kernel
theorem am_chl_8 : ((am_k258.drop 480).take 60).all (am_ce 258) = true := by decide +kernel
theorem am_chl_9 : ((am_k258.drop 540).take 60).all (am_ce 258) = true := by decide +kernel
theorem am_chl_10 : ((am_k258.drop 600).take 60).all (am_ce 258) = true := by decide +kernel
theorem am_chl_11 : ((am_k258.drop 660).take 60).all (am_ce 258) = true := by decide +kernel
theorem am_chl_12 : ((am_k258.drop 720).take 60).all (am_ce 258) = true := by decide +kernel
theorem am_chl_13 : ((am_k258.drop 780).take 60).all (am_ce 258) = true := by decide +kernel
theorem am_chl_14 : ((am_k258.drop 840).take 60).all (am_ce 258) = true := by decide +kernel
theorem am_chl_15 : ((am_k258.drop 900).take 60).all (am_ce 258) = true := by decide +kernel
theorem am_chl_16 : ((am_k258.drop 960).take 60).all (am_ce 258) = true := by decide +kernel
theorem am_chl_17 : ((am_k258.drop 1020).take 60).all (am_ce 258) = true := by decide +kernel
theorem am_chl_18 : ((am_k258.drop 1080).take 60).all (am_ce 258) = true := by decide +kernel
theorem am_dt {α : Type} (f : α → Bool) (l : List α) (a n : Nat) (h1 : ((l.drop a).take n).all f = true) (h2 : (l.drop (a + n)).all f = true) : (l.drop a).all f = true := by
  rw [← List.take_append_drop n (l.drop a), List.all_append, Bool.and_eq_true, List.drop_drop]
  exact ⟨h1, h2⟩
theorem am_chk_law : am_chk 258 = true := by
  show am_k258.all (am_ce 258) = true
  have h19 : (am_k258.drop 1140).all (am_ce 258) = true := by
    have e : am_k258.drop 1140 = [] := by decide +kernel
    rw [e]; rfl
  have h18 := am_dt (am_ce 258) am_k258 1080 60 am_chl_18 h19
  have h17 := am_dt (am_ce 258) am_k258 1020 60 am_chl_17 h18
  have h16 := am_dt (am_ce 258) am_k258 960 60 am_chl_16 h17
  have h15 := am_dt (am_ce 258) am_k258 900 60 am_chl_15 h16
  have h14 := am_dt (am_ce 258) am_k258 840 60 am_chl_14 h15
  have h13 := am_dt (am_ce 258) am_k258 780 60 am_chl_13 h14
  have h12 := am_dt (am_ce 258) am_k258 720 60 am_chl_12 h13
  have h11 := am_dt (am_ce 258) am_k258 660 60 am_chl_11 h12
  have h10 := am_dt (am_ce 258) am_k258 600 60 am_chl_10 h11
  have h9 := am_dt (am_ce 258) am_k258 540 60 am_chl_9 h10
  have h8 := am_dt (am_ce 258) am_k258 480 60 am_chl_8 h9
  have h7 := am_dt (am_ce 258) am_k258 420 60 am_chl_7 h8
  have h6 := am_dt (am_ce 258) am_k258 360 60 am_chl_6 h7
  have h5 := am_dt (am_ce 258) am_k258 300 60 am_chl_5 h6
  have h4 := am_dt (am_ce 258) am_k258 240 60 am_chl_4 h5
  have h3 := am_dt (am_ce 258) am_k258 180 60 am_chl_3 h4
  have h2 := am_dt (am_ce 258) am_k258 120 60 am_chl_2 h3
  have h1 := am_dt (am_ce 258) am_k258 60 60 am_chl_1 h2
  have h0 := am_dt (am_ce 258) am_k258 0 60 am_chl_0 h1
  exact h0
