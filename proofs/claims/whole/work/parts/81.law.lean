section Law
theorem ct_fl_in {n : Nat} {x : Int32} {g : Nat → Int32} : ∀ {j : Nat}, j < n → ct_fl n x g j = x := by
  intro j hj
  unfold ct_fl
  rw [if_pos hj]
/-- the two objects as they are made -/
theorem inv0 (L : Nat) (xs : Nat → Int32) : Inv (am_f0 L xs) := by
  refine ⟨0, fun _ => 0, fun _ => 0, 0, fun _ => 0, 0, 0, ?_, ?_, ?_, ?_, ?_, ?_⟩
  · exact ⟨⟨rfl, by omega, fun _ => rfl, fun _ => Nat.zero_le _, fun _ => rfl, fun _ => Nat.zero_le _⟩, ⟨rfl, rfl, rfl, rfl, rfl, rfl⟩, fun _ _ _ _ => rfl, fun s => ⟨0, 0, 0, rfl, by omega, rfl, by omega, rfl, by omega⟩⟩
  · exact ⟨rfl, by omega, rfl, fun k hk => absurd hk (Nat.not_lt_zero _)⟩
  · exact ⟨rfl, by omega, rfl, fun j hj => absurd hj (Nat.not_lt_zero _)⟩
  · refine ⟨rfl, fun i _ => rfl, fun a _ => ?_⟩
    rw [smN_zero]
    omega
  · refine ⟨⟨rfl, by omega, rfl⟩, ⟨⟨fun s hs => ?_, fun s w hs hw => ?_, fun j hj => rfl, rfl, rfl⟩, Or.inl ⟨fun s hs => ?_, rfl, rfl⟩⟩, fun z => absurd z (by decide), fun z => absurd z (by decide), fun z => absurd z (by decide), fun z => absurd z (by decide), fun z => absurd z (by decide)⟩
    · show ct_fl 9 (-1) (fun _ => 0) (9 * 0 + s) = ct_fl 9 (-1) (fun _ => 0) s
      rw [show 9 * 0 + s = s by omega]
    · show ct_fl 324 (-1) (fun _ => 0) (324 * 0 + (9 * w + s)) = ct_fl 324 (-1) (fun _ => 0) (s * 36 + w)
      rw [ct_fl_in (by omega), ct_fl_in (by omega)]
    · show ct_fl 9 (-1) (fun _ => 0) s = -1
      exact ct_fl_in hs
  · exact IC.none rfl rfl rfl rfl rfl
theorem law_step {L i : Nat} {f : Hp} (hL : L ≤ 2560) (h77 : f 77 0 = nI L) (hi : i + 5 ≤ L) (hinv : Inv f) : ∃ h, am_run 187 18 [.ref 0, .ref 1, .ref 50, .int (nI i)] [] f = am_run 187 18 [.ref 0, .ref 1, .ref 50, .int (nI (i + 5))] [] h ∧ Inv h ∧ h 77 = f 77 := by
  have hv := hinv
  obtain ⟨n, lk, ln, c, mr, t, kc, hv⟩ := hv
  have i1 : nI i + 1 = nI (i + 1) := nI_1 i
  have i2 : nI i + 2 = nI (i + 2) := nI_add i 2
  have i3 : nI i + 3 = nI (i + 3) := nI_add i 3
  have i4 : nI i + 4 = nI (i + 4) := nI_add i 4
  have i5 : nI i + 5 = nI (i + 5) := nI_add i 5
  have hc : (f 77 0).toNatClampNeg = L := by rw [h77]; exact nI_clamp (by omega)
  have hcL : (nI L).toNatClampNeg = L := nI_clamp (by omega)
  have af : ∀ (j : Nat) (k : Int32 → Option Rs), j < L → am_ald f 0 L (nI j) k = k (f 0 j) := fun j k hj => am_ald_in f 0 k hj (by omega)
  have ag : ∀ (g : Hp), g 0 = f 0 → g 77 = f 77 → ∀ (j : Nat) (k : Int32 → Option Rs), j < L → am_ald g 0 ((g 77 0).toNatClampNeg) (nI j) k = k (f 0 j) := fun g g0 g77 j k hj => by
    rw [g77, hc, am_ald_in g 0 k hj (by omega), g0]
  have hend : ¬ nI L - 5 < nI i := by
    rw [fa_lt]
    have e : (nI L - nI 5).toInt = (L : Int) - 5 := pk_sub_toInt (by omega) (by omega)
    have e' : (nI L - 5 : Int32).toInt = (L : Int) - 5 := e
    rw [e', nI_toInt (by omega)]
    omega
  rw [eL_law_18_0_1_50, h77, if_neg hend, hcL, i1, i2, i3, i4, i5, af i _ (by omega)]
  by_cases e0 : f 0 i &&& 31 = 0
  · obtain ⟨r, g, h, h1, h2, g0, g77, h0, h77x, hx⟩ := op_side hv (f 0 (i + 1)) (f 0 (i + 2)) (f 0 (i + 3)) (f 0 (i + 4))
    rw [if_pos e0, af (i + 1) _ (by omega), af (i + 2) _ (by omega), af (i + 3) _ (by omega), af (i + 4) _ (by omega), h1, am_cal_some, ag g g0 g77 (i + 1) _ (by omega), ag g g0 g77 (i + 2) _ (by omega), ag g g0 g77 (i + 3) _ (by omega), ag g g0 g77 (i + 4) _ (by omega), h2, am_cal_some, if_pos rfl]
    exact ⟨h, rfl, hx, h77x⟩
  rw [if_neg e0]
  by_cases e1 : f 0 i &&& 31 = 1
  · obtain ⟨r, g, h, h1, h2, g0, g77, h0, h77x, hx⟩ := op_link hv (f 0 (i + 1)) (f 0 (i + 2)) (f 0 (i + 3))
    rw [if_pos e1, af (i + 1) _ (by omega), af (i + 2) _ (by omega), af (i + 3) _ (by omega), h1, am_cal_some, ag g g0 g77 (i + 1) _ (by omega), ag g g0 g77 (i + 2) _ (by omega), ag g g0 g77 (i + 3) _ (by omega), h2, am_cal_some, if_pos rfl]
    exact ⟨h, rfl, hx, h77x⟩
  rw [if_neg e1]
  by_cases e2 : f 0 i &&& 31 = 2
  · obtain ⟨r, g, h, h1, h2, g0, g77, h0, h77x, hx⟩ := op_doors hv (f 0 (i + 1)) (f 0 (i + 2))
    rw [if_pos e2, af (i + 1) _ (by omega), af (i + 2) _ (by omega), h1, am_cal_some, ag g g0 g77 (i + 1) _ (by omega), ag g g0 g77 (i + 2) _ (by omega), h2, am_cal_some, if_pos rfl]
    exact ⟨h, rfl, hx, h77x⟩
  rw [if_neg e2]
  by_cases e3 : f 0 i &&& 31 = 3
  · obtain ⟨r, g, h, h1, h2, g0, g77, h0, h77x, hx⟩ := op_walk hv (f 0 (i + 1))
    rw [if_pos e3, af (i + 1) _ (by omega), h1, am_cal_some, ag g g0 g77 (i + 1) _ (by omega), h2, am_cal_some, if_pos rfl]
    exact ⟨h, rfl, hx, h77x⟩
  rw [if_neg e3]
  by_cases e4 : f 0 i &&& 31 = 4
  · obtain ⟨r, g, h, h1, h2, g0, g77, h0, h77x, hx⟩ := op_row hv (f 0 (i + 1)) (f 0 (i + 2))
    rw [if_pos e4, af (i + 1) _ (by omega), af (i + 2) _ (by omega), h1, am_cal_some, ag g g0 g77 (i + 1) _ (by omega), ag g g0 g77 (i + 2) _ (by omega), h2, am_cal_some, if_pos rfl]
    exact ⟨h, rfl, hx, h77x⟩
  rw [if_neg e4]
  by_cases e5 : f 0 i &&& 31 = 5
  · obtain ⟨r, g, h, h1, h2, g0, g77, h0, h77x, hx⟩ := op_right hv (f 0 (i + 1)) (f 0 (i + 2))
    rw [if_pos e5, af (i + 1) _ (by omega), af (i + 2) _ (by omega), h1, am_cal_some, ag g g0 g77 (i + 1) _ (by omega), ag g g0 g77 (i + 2) _ (by omega), h2, am_cal_some, if_pos rfl]
    exact ⟨h, rfl, hx, h77x⟩
  rw [if_neg e5]
  by_cases e6 : f 0 i &&& 31 = 6
  · obtain ⟨r, g, h, h1, h2, g0, g77, h0, h77x, hx⟩ := op_shaped hv (f 0 (i + 1)) (f 0 (i + 2))
    rw [if_pos e6, af (i + 1) _ (by omega), af (i + 2) _ (by omega), h1, am_cal_some, ag g g0 g77 (i + 1) _ (by omega), ag g g0 g77 (i + 2) _ (by omega), h2, am_cal_some, if_pos rfl]
    exact ⟨h, rfl, hx, h77x⟩
  rw [if_neg e6]
  by_cases e7 : f 0 i &&& 31 = 7
  · obtain ⟨r, g, h, h1, h2, g0, g77, h0, h77x, hx⟩ := op_write hv (f 0 (i + 1)) (((f 0 (i + 2)).toInt64 <<< ((32 : Int32).toInt64 &&& 63)) ||| ((f 0 (i + 3)).toInt64 &&& 4294967295))
    rw [if_pos e7, af (i + 1) _ (by omega), af (i + 2) _ (by omega), af (i + 3) _ (by omega), h1, am_cal_some, ag g g0 g77 (i + 1) _ (by omega), ag g g0 g77 (i + 2) _ (by omega), ag g g0 g77 (i + 3) _ (by omega), h2, am_cal_some, if_pos rfl]
    exact ⟨h, rfl, hx, h77x⟩
  rw [if_neg e7]
  by_cases e8 : f 0 i &&& 31 = 8
  · obtain ⟨r, g, h, h1, h2, g0, g77, h0, h77x, hx⟩ := op_wipe hv
    rw [if_pos e8, h1, am_cal_some, h2, am_cal_some, if_pos rfl]
    exact ⟨h, rfl, hx, h77x⟩
  rw [if_neg e8]
  by_cases e9 : f 0 i &&& 31 = 9
  · obtain ⟨r, g, h, h1, h2, g0, g77, h0, h77x, hx⟩ := op_fault hv
    rw [if_pos e9, h1, am_cal_some, h2, am_cal_some, if_pos rfl]
    exact ⟨h, rfl, hx, h77x⟩
  rw [if_neg e9]
  by_cases e10 : f 0 i &&& 31 = 10
  · obtain ⟨r, g, h, h1, h2, g0, g77, h0, h77x, hx⟩ := op_force hv
    rw [if_pos e10, h1, am_cal_some, h2, am_cal_some, if_pos rfl]
    exact ⟨h, rfl, hx, h77x⟩
  rw [if_neg e10]
  by_cases e11 : f 0 i &&& 31 = 11
  · obtain ⟨r, g, h, h1, h2, g0, g77, h0, h77x, hx⟩ := op_rule hv (f 0 (i + 1)) (f 0 (i + 2))
    rw [if_pos e11, af (i + 1) _ (by omega), af (i + 2) _ (by omega), h1, am_cal_some, ag g g0 g77 (i + 1) _ (by omega), ag g g0 g77 (i + 2) _ (by omega), h2, am_cal_some, if_pos rfl]
    exact ⟨h, rfl, hx, h77x⟩
  rw [if_neg e11]
  by_cases e12 : f 0 i &&& 31 = 12
  · obtain ⟨r, g, h, h1, h2, g0, g77, h0, h77x, hx⟩ := op_why hv (f 0 (i + 1)) (f 0 (i + 2))
    rw [if_pos e12, af (i + 1) _ (by omega), af (i + 2) _ (by omega), h1, am_cal_some, ag g g0 g77 (i + 1) _ (by omega), ag g g0 g77 (i + 2) _ (by omega), h2, am_cal_some, if_pos rfl]
    exact ⟨h, rfl, hx, h77x⟩
  rw [if_neg e12]
  by_cases e13 : f 0 i &&& 31 = 13
  · obtain ⟨r, g, h, h1, h2, g0, g77, h0, h77x, hx⟩ := op_quarrel hv
    rw [if_pos e13, h1, am_cal_some, h2, am_cal_some, if_pos rfl]
    exact ⟨h, rfl, hx, h77x⟩
  rw [if_neg e13]
  by_cases e14 : f 0 i &&& 31 = 14
  · obtain ⟨r, g, h, h1, h2, g0, g77, h0, h77x, hx⟩ := op_misread hv (f 0 (i + 1)) (f 0 (i + 2)) (f 0 (i + 3))
    rw [if_pos e14, af (i + 1) _ (by omega), af (i + 2) _ (by omega), af (i + 3) _ (by omega), h1, am_cal_some, ag g g0 g77 (i + 1) _ (by omega), ag g g0 g77 (i + 2) _ (by omega), ag g g0 g77 (i + 3) _ (by omega), h2, am_cal_some, if_pos rfl]
    exact ⟨h, rfl, hx, h77x⟩
  rw [if_neg e14]
  by_cases e15 : f 0 i &&& 31 = 15
  · obtain ⟨r, g, h, h1, h2, g0, g77, h0, h77x, hx⟩ := op_read hv (f 0 (i + 1)) (f 0 (i + 2))
    rw [if_pos e15, af (i + 1) _ (by omega), af (i + 2) _ (by omega), h1, am_cal_some, ag g g0 g77 (i + 1) _ (by omega), ag g g0 g77 (i + 2) _ (by omega), h2, am_cal_some, if_pos rfl]
    exact ⟨h, rfl, hx, h77x⟩
  rw [if_neg e15]
  by_cases e16 : f 0 i &&& 31 = 16
  · obtain ⟨r, g, h, h1, h2, g0, g77, h0, h77x, hx⟩ := op_words hv (f 0 (i + 1)) (f 0 (i + 2)) (f 0 (i + 3))
    rw [if_pos e16, af (i + 1) _ (by omega), af (i + 2) _ (by omega), af (i + 3) _ (by omega), h1, am_cal_some, ag g g0 g77 (i + 1) _ (by omega), ag g g0 g77 (i + 2) _ (by omega), ag g g0 g77 (i + 3) _ (by omega), h2, am_cal_some, if_pos rfl]
    exact ⟨h, rfl, hx, h77x⟩
  rw [if_neg e16]
  by_cases e17 : f 0 i &&& 31 = 17
  · obtain ⟨r, g, h, h1, h2, g0, g77, h0, h77x, hx⟩ := op_who hv (f 0 (i + 1)) (f 0 (i + 2))
    rw [if_pos e17, af (i + 1) _ (by omega), af (i + 2) _ (by omega), h1, am_cal_some, ag g g0 g77 (i + 1) _ (by omega), ag g g0 g77 (i + 2) _ (by omega), h2, am_cal_some, if_pos rfl]
    exact ⟨h, rfl, hx, h77x⟩
  rw [if_neg e17]
  by_cases e18 : f 0 i &&& 31 = 18
  · obtain ⟨r, g, h, h1, h2, g0, g77, h0, h77x, hx⟩ := op_give hv (f 0 (i + 1)) (f 0 (i + 2))
    rw [if_pos e18, af (i + 1) _ (by omega), af (i + 2) _ (by omega), h1, am_cal_some, ag g g0 g77 (i + 1) _ (by omega), ag g g0 g77 (i + 2) _ (by omega), h2, am_cal_some, if_pos rfl]
    exact ⟨h, rfl, hx, h77x⟩
  rw [if_neg e18]
  by_cases e19 : f 0 i &&& 31 = 19
  · obtain ⟨r, g, h, h1, h2, g0, g77, h0, h77x, hx⟩ := op_split hv (f 0 (i + 1)) (f 0 (i + 2))
    rw [if_pos e19, af (i + 1) _ (by omega), af (i + 2) _ (by omega), h1, am_cal_some, ag g g0 g77 (i + 1) _ (by omega), ag g g0 g77 (i + 2) _ (by omega), h2, am_cal_some, if_pos rfl]
    exact ⟨h, rfl, hx, h77x⟩
  rw [if_neg e19]
  by_cases e20 : f 0 i &&& 31 = 20
  · obtain ⟨r, g, h, h1, h2, g0, g77, h0, h77x, hx⟩ := op_ask hv (f 0 (i + 1)) (f 0 (i + 2)) (f 0 (i + 3))
    rw [if_pos e20, af (i + 1) _ (by omega), af (i + 2) _ (by omega), af (i + 3) _ (by omega), h1, am_cal_some, ag g g0 g77 (i + 1) _ (by omega), ag g g0 g77 (i + 2) _ (by omega), ag g g0 g77 (i + 3) _ (by omega), h2, am_cal_some, if_pos rfl]
    exact ⟨h, rfl, hx, h77x⟩
  rw [if_neg e20]
  by_cases e21 : f 0 i &&& 31 = 21
  · obtain ⟨r, g, h, h1, h2, g0, g77, h0, h77x, hx⟩ := op_pass hv (f 0 (i + 1)) (f 0 (i + 2)) (f 0 (i + 3))
    rw [if_pos e21, af (i + 1) _ (by omega), af (i + 2) _ (by omega), af (i + 3) _ (by omega), h1, am_cal_some, ag g g0 g77 (i + 1) _ (by omega), ag g g0 g77 (i + 2) _ (by omega), ag g g0 g77 (i + 3) _ (by omega), h2, am_cal_some, if_pos rfl]
    exact ⟨h, rfl, hx, h77x⟩
  rw [if_neg e21]
  by_cases e22 : f 0 i &&& 31 = 22
  · obtain ⟨r, g, h, h1, h2, g0, g77, h0, h77x, hx⟩ := op_code hv (f 0 (i + 1)) (f 0 (i + 2))
    rw [if_pos e22, af (i + 1) _ (by omega), af (i + 2) _ (by omega), h1, am_cal_some, ag g g0 g77 (i + 1) _ (by omega), ag g g0 g77 (i + 2) _ (by omega), h2, am_cal_some, if_pos rfl]
    exact ⟨h, rfl, hx, h77x⟩
  rw [if_neg e22]
  by_cases e23 : f 0 i &&& 31 = 23
  · obtain ⟨r, g, h, h1, h2, g0, g77, h0, h77x, hx⟩ := op_lead hv (f 0 (i + 1)) (f 0 (i + 2))
    rw [if_pos e23, af (i + 1) _ (by omega), af (i + 2) _ (by omega), h1, am_cal_some, ag g g0 g77 (i + 1) _ (by omega), ag g g0 g77 (i + 2) _ (by omega), h2, am_cal_some, if_pos rfl]
    exact ⟨h, rfl, hx, h77x⟩
  rw [if_neg e23]
  by_cases e24 : f 0 i &&& 31 = 24
  · obtain ⟨r, g, h, h1, h2, g0, g77, h0, h77x, hx⟩ := op_rounds hv (f 0 (i + 1)) (f 0 (i + 2)) (f 0 (i + 3))
    rw [if_pos e24, af (i + 1) _ (by omega), af (i + 2) _ (by omega), af (i + 3) _ (by omega), h1, am_cal_some, ag g g0 g77 (i + 1) _ (by omega), ag g g0 g77 (i + 2) _ (by omega), ag g g0 g77 (i + 3) _ (by omega), h2, am_cal_some, if_pos rfl]
    exact ⟨h, rfl, hx, h77x⟩
  rw [if_neg e24]
  by_cases e25 : f 0 i &&& 31 = 25
  · obtain ⟨r, g, h, h1, h2, g0, g77, h0, h77x, hx⟩ := op_fullYear hv (f 0 (i + 1)) (f 0 (i + 2))
    rw [if_pos e25, af (i + 1) _ (by omega), af (i + 2) _ (by omega), h1, am_cal_some, ag g g0 g77 (i + 1) _ (by omega), ag g g0 g77 (i + 2) _ (by omega), h2, am_cal_some, if_pos rfl]
    exact ⟨h, rfl, hx, h77x⟩
  rw [if_neg e25]
  by_cases e26 : f 0 i &&& 31 = 26
  · obtain ⟨r, g, h, h1, h2, g0, g77, h0, h77x, hx⟩ := op_edition hv
    rw [if_pos e26, h1, am_cal_some, h2, am_cal_some, if_pos rfl]
    exact ⟨h, rfl, hx, h77x⟩
  rw [if_neg e26]
  by_cases e27 : f 0 i &&& 31 = 27
  · obtain ⟨r, g, h, h1, h2, g0, g77, h0, h77x, hx⟩ := op_book hv (f 0 (i + 1)) (f 0 (i + 2))
    rw [if_pos e27, af (i + 1) _ (by omega), af (i + 2) _ (by omega), h1, am_cal_some, ag g g0 g77 (i + 1) _ (by omega), ag g g0 g77 (i + 2) _ (by omega), h2, am_cal_some, if_pos rfl]
    exact ⟨h, rfl, hx, h77x⟩
  rw [if_neg e27]
  by_cases e28 : f 0 i &&& 31 = 28
  · obtain ⟨r, g, h, h1, h2, g0, g77, h0, h77x, hx⟩ := op_wrong hv (f 0 (i + 1)) (f 0 (i + 2))
    rw [if_pos e28, af (i + 1) _ (by omega), af (i + 2) _ (by omega), h1, am_cal_some, ag g g0 g77 (i + 1) _ (by omega), ag g g0 g77 (i + 2) _ (by omega), h2, am_cal_some, if_pos rfl]
    exact ⟨h, rfl, hx, h77x⟩
  rw [if_neg e28]
  by_cases e29 : f 0 i &&& 31 = 29
  · obtain ⟨r, g, h, h1, h2, g0, g77, h0, h77x, hx⟩ := op_keep hv
    rw [if_pos e29, h1, am_cal_some, h2, am_cal_some, if_pos rfl]
    exact ⟨h, rfl, hx, h77x⟩
  rw [if_neg e29]
  by_cases e30 : f 0 i &&& 31 = 30
  · obtain ⟨r, g, h, h1, h2, g0, g77, h0, h77x, hx⟩ := op_back hv
    rw [if_pos e30, h1, am_cal_some, h2, am_cal_some, if_pos rfl]
    exact ⟨h, rfl, hx, h77x⟩
  rw [if_neg e30]
  by_cases e31 : f 0 i &&& 31 = 31
  · obtain ⟨r, g, h, h1, h2, g0, g77, h0, h77x, hx⟩ := op_count hv (f 0 (i + 1))
    rw [if_pos e31, af (i + 1) _ (by omega), h1, am_cal_some, ag g g0 g77 (i + 1) _ (by omega), h2, am_cal_some, if_pos rfl]
    exact ⟨h, rfl, hx, h77x⟩
  rw [if_neg e31]
  exact ⟨f, rfl, hinv, rfl⟩
theorem law_end {L i : Nat} {f : Hp} (hL : L ≤ 2560) (hi : i ≤ 2560) (h77 : f 77 0 = nI L) (h : L < i + 5) : am_run 187 18 [.ref 0, .ref 1, .ref 50, .int (nI i)] [] f = some (1, f) := by
  have hend : nI L - 5 < nI i := by
    rw [fa_lt]
    have e : (nI L - nI 5).toInt = (L : Int) - 5 := pk_sub_toInt (by omega) (by omega)
    have e' : (nI L - 5 : Int32).toInt = (L : Int) - 5 := e
    rw [e', nI_toInt (by omega)]
    omega
  rw [eL_law_18_0_1_50, h77, if_pos hend, am_z1]
theorem law_all {L : Nat} (hL : L ≤ 2560) : ∀ d i f, f 77 0 = nI L → i ≤ 2560 → L < i + 5 + 5 * d → Inv f → ∃ g, am_run 187 18 [.ref 0, .ref 1, .ref 50, .int (nI i)] [] f = some (1, g) := by
  intro d
  induction d with
  | zero =>
    intro i f h77 hi hd _
    exact ⟨f, law_end hL hi h77 (by omega)⟩
  | succ d ih =>
    intro i f h77 hi hd hinv
    by_cases e : L < i + 5
    · exact ⟨f, law_end hL hi h77 e⟩
    · obtain ⟨h, h1, h2, h3⟩ := law_step (i := i) hL h77 (by omega) hinv
      obtain ⟨g, g1⟩ := ih (i + 5) h (by rw [h3]; exact h77) (by omega) (by omega) h2
      exact ⟨g, by rw [h1, g1]⟩
theorem am_hlaw : ∀ (L : Nat) (xs : Nat → Int32), L ≤ 2560 → ∃ g, am_run 187 16 [.ref 0, .ref 1, .ref 50, .null] [] (am_f0 L xs) = some (1, g) := by
  intro L xs hL
  obtain ⟨g, hg⟩ := law_all hL 600 0 (am_f0 L xs) rfl (by omega) (by omega) (inv0 L xs)
  have hg : am_run 187 18 [.ref 0, .ref 1, .ref 50, .int 0] [] (am_f0 L xs) = _ := hg
  exact ⟨g, by rw [eL_law_16_0_1_50, hg]⟩
end Law
