section Ops12
variable {n : Nat} {lk ln : Nat → Nat} {c : Nat} {mr : Nat → Nat} {t kc : Nat} {f g : Hp}
theorem m_isAsk (h : Iv n lk ln c mr t kc f) {a b : Nat} (ha : a < n) (hb : b < n) (day : Int32) : am_call 171 [.ref 50, .int (nI a), .int (nI b), .int day] f = some (bi (!decide (f 37 4 < 0) && (!decide (f 38 a = f 38 b) && !decide (day < f 37 4))), f) := by
  have h9 := h.n9
  have wa0 := h.w0 ha
  have wb0 := h.w0 hb
  rw [eX9_isAsk_50, am_ald_in _ _ _ (show a < 27 by omega) (by decide), am_ald_in _ _ _ (show b < 27 by omega) (by decide), am_ald_in _ _ _ (show a < 27 by omega) (by decide), am_ald_in _ _ _ (show b < 27 by omega) (by decide), ald_0 _ _ _ (by decide) (by decide), h.tl, h.tw a (by omega), h.tw b (by omega)]
  simp only [am_z0, am_z1]
  by_cases e1 : f 37 4 < 0
  · have ea : f 38 a < 0 := by rw [decide_eq_true e1] at wa0; exact of_decide_eq_true wa0
    rw [if_pos ea, decide_eq_true e1]; rfl
  · have ea : ¬ f 38 a < 0 := by rw [decide_eq_false e1] at wa0; exact of_decide_eq_false wa0
    have eb : ¬ f 38 b < 0 := by rw [decide_eq_false e1] at wb0; exact of_decide_eq_false wb0
    rw [if_neg ea, if_neg eb, decide_eq_false e1]
    by_cases e2 : f 38 a = f 38 b
    · rw [if_pos e2, decide_eq_true e2]; rfl
    · rw [if_neg e2, decide_eq_false e2]
      by_cases e3 : day < f 37 4
      · rw [if_pos e3, decide_eq_true e3]; rfl
      · rw [if_neg e3, decide_eq_false e3]; rfl
theorem coA_ne (h : Iv n lk ln c mr t kc f) {F T a : Nat} (hF : F < 2 ^ n) (hT : T < 2 ^ n) (ha : a < n) (wF : WS lk ln n F ≠ none) (wT : WS lk ln n T ≠ none) {day : Int32} (hok : okA n lk ln c F T a day f = true) : ¬ coA n lk ln F T a = -1000000 ∧ ¬ coA n lk ln F T a = -1000002 ∧ ¬ coA n lk ln F T a = -100000 := by
  unfold okA at hok
  simp only [Bool.and_eq_true, Bool.or_eq_true, decide_eq_true_eq] at hok
  obtain ⟨w1, b1, e1⟩ := enc_b h.n9 h.lb h.nb (or_lt2 hT ha) (Rd_some hok.1)
  obtain ⟨w2, b2, e2⟩ := enc_b h.n9 h.lb h.nb hF wF
  obtain ⟨w3, b3, e3⟩ := enc_b h.n9 h.lb h.nb hT wT
  have key : ∃ w, w < 100000 ∧ coA n lk ln F T a = nI w - nI w2 - nI w3 := by
    unfold coA
    rw [e1, e2, e3]
    by_cases e0 : F ^^^ 2 ^ a = 0
    · rw [if_pos e0, Int32.add_zero]
      exact ⟨w1, by omega, rfl⟩
    · rcases hok.2 with z | z
      · exact absurd z e0
      · obtain ⟨w4, b4, e4⟩ := enc_b h.n9 h.lb h.nb (xor_lt hF ha) (Rd_some z)
        rw [if_neg e0, e4, nI_add]
        exact ⟨w1 + w4, by omega, rfl⟩
  obtain ⟨w, hw, e⟩ := key
  have hs := small_sub hw (show w2 < 100000 by omega) (show w3 < 100000 by omega)
  rw [e]
  have x1 : (-1000000 : Int32).toInt = -1000000 := by decide
  have x2 : (-1000002 : Int32).toInt = -1000002 := by decide
  have x3 : (-100000 : Int32).toInt = -100000 := by decide
  refine ⟨fun z => ?_, fun z => ?_, fun z => ?_⟩
  all_goals
    have := congrArg Int32.toInt z
    rw [hs] at this
    omega
theorem op_ask (h : Iv n lk ln c mr t kc f) (a1 a2 a3 : Int32) : OP 89 172 [.int a1, .int a2, .int a3] f := by
  by_cases e1 : wi a1 0 (nI n - 1) = true
  case neg =>
    have e1 : wi a1 0 (nI n - 1) = false := by simpa using e1
    exact OP.same h (r := -1000000) (by rw [eX8_ask_1, eX8_costOfAsk_1, c_isSide, h.n7, am_cal_some, e1, bi_f, if_pos rfl, am_cal_some]) (by rw [eX9_ask_50, m_isSide, h.n0, am_cal_some, e1, bi_f, if_pos rfl])
  by_cases e2 : wi a2 0 (nI n - 1) = true
  case neg =>
    have e2 : wi a2 0 (nI n - 1) = false := by simpa using e2
    exact OP.same h (r := -1000000) (by rw [eX8_ask_1, eX8_costOfAsk_1, c_isSide, h.n7, am_cal_some, e1, bi_t, if_neg one_ne, c_isSide, h.n7, am_cal_some, e2, bi_f, if_pos rfl, am_cal_some]) (by rw [eX9_ask_50, m_isSide, h.n0, am_cal_some, e1, bi_t, if_neg one_ne, m_isSide, h.n0, am_cal_some, e2, bi_f, if_pos rfl])
  by_cases e3 : wi a3 0 14600 = true
  case neg =>
    have e3 : wi a3 0 14600 = false := by simpa using e3
    exact OP.same h (r := -1000000) (by rw [eX8_ask_1, eX8_costOfAsk_1, c_isSide, h.n7, am_cal_some, e1, bi_t, if_neg one_ne, c_isSide, h.n7, am_cal_some, e2, bi_t, if_neg one_ne, c_isDay, am_cal_some, e3, bi_f, if_pos rfl, am_cal_some]) (by rw [eX9_ask_50, m_isSide, h.n0, am_cal_some, e1, bi_t, if_neg one_ne, m_isSide, h.n0, am_cal_some, e2, bi_t, if_neg one_ne, m_isDay, am_cal_some, e3, bi_f, if_pos rfl])
  obtain ⟨a, ha, rfl⟩ := wi_side h.n9 e1
  obtain ⟨b, hb, rfl⟩ := wi_side h.n9 e2
  have h9 := h.n9
  have hA := m_isAsk h ha hb a3
  by_cases e4 : f 37 4 < 0
  · rw [decide_eq_true e4] at hA
    refine OP.same h (r := -1000002) ?_ ?_
    · rw [eX8_ask_1, eX8_costOfAsk_1, c_isSide, h.n7, am_cal_some, e1, bi_t, if_neg one_ne, c_isSide, h.n7, am_cal_some, e2, bi_t, if_neg one_ne, c_isDay, am_cal_some, e3, bi_t, if_neg one_ne, c_isGiven, am_cal_some, decide_eq_true e4, Bool.not_true, bi_f, if_pos rfl, am_cal_some]
    · rw [eX9_ask_50, m_isSide, h.n0, am_cal_some, e1, bi_t, if_neg one_ne, m_isSide, h.n0, am_cal_some, e2, bi_t, if_neg one_ne, m_isDay, am_cal_some, e3, bi_t, if_neg one_ne, hA, am_cal_some, Bool.not_true, Bool.false_and, bi_f, if_pos rfl]
  rw [decide_eq_false e4] at hA
  by_cases e5 : a3 < f 37 4
  · rw [decide_eq_true e5] at hA
    refine OP.same h (r := -1000002) ?_ ?_
    · rw [eX8_ask_1, eX8_costOfAsk_1, c_isSide, h.n7, am_cal_some, e1, bi_t, if_neg one_ne, c_isSide, h.n7, am_cal_some, e2, bi_t, if_neg one_ne, c_isDay, am_cal_some, e3, bi_t, if_neg one_ne, c_isGiven, am_cal_some, decide_eq_false e4, Bool.not_false, bi_t, if_neg one_ne, if_pos e5, am_cal_some]
    · rw [eX9_ask_50, m_isSide, h.n0, am_cal_some, e1, bi_t, if_neg one_ne, m_isSide, h.n0, am_cal_some, e2, bi_t, if_neg one_ne, m_isDay, am_cal_some, e3, bi_t, if_neg one_ne, hA, am_cal_some, Bool.not_true, Bool.and_false, Bool.and_false, bi_f, if_pos rfl]
  rw [decide_eq_false e5] at hA
  by_cases e6 : f 38 a = f 38 b
  · rw [decide_eq_true e6] at hA
    refine OP.same h (r := -1000002) ?_ ?_
    · rw [eX8_ask_1, eX8_costOfAsk_1, c_isSide, h.n7, am_cal_some, e1, bi_t, if_neg one_ne, c_isSide, h.n7, am_cal_some, e2, bi_t, if_neg one_ne, c_isDay, am_cal_some, e3, bi_t, if_neg one_ne, c_isGiven, am_cal_some, decide_eq_false e4, Bool.not_false, bi_t, if_neg one_ne, if_neg e5, eX6_wordOf_37, am_ald_in _ _ _ (show a < 9 by omega) (by decide), am_cal_some, eX6_wordOf_37, am_ald_in _ _ _ (show b < 9 by omega) (by decide), am_cal_some, if_pos e6, am_cal_some]
    · rw [eX9_ask_50, m_isSide, h.n0, am_cal_some, e1, bi_t, if_neg one_ne, m_isSide, h.n0, am_cal_some, e2, bi_t, if_neg one_ne, m_isDay, am_cal_some, e3, bi_t, if_neg one_ne, hA, am_cal_some, Bool.not_true, Bool.false_and, Bool.and_false, bi_f, if_pos rfl]
  rw [decide_eq_false e6] at hA
  have hA : am_call 171 [.ref 50, .int (nI a), .int (nI b), .int a3] f = some (1, f) := hA
  rcases h.gv with ⟨z, -⟩ | ⟨-, ww, ed, dl, hg⟩
  · exact absurd z e4
  obtain ⟨a1', a2'⟩ := hg.2.1.1 a ha
  obtain ⟨b1', b2'⟩ := hg.2.1.1 b hb
  have a1' : f 38 a = nI (ww a) := a1'
  have b1' : f 38 b = nI (ww b) := b1'
  have hab : ww a ≠ ww b := fun z => e6 (by rw [a1', b1', z])
  have hcost := h.c_cost hg ha hb hab e3 e5
  obtain ⟨hw, ag⟩ := h.waI
  
  have hgw : GvT n lk ln ww ed dl 37 (wa f) := by
    unfold GvT at hg ⊢
    simp only [Nat.reduceAdd] at hg ⊢
    rw [ag.2.2.1 37 (by decide), ag.2.2.1 38 (by decide), ag.2.2.1 40 (by decide)]
    exact hg
  obtain ⟨H, m1, m2, m3, m4⟩ := hw.m_mayPass (g := wa f) (ME.of (fun _ _ => rfl)) hgw ha hb a3
  have hok : okA n lk ln c (cdS n ww (ww a)) (cdS n ww (ww b)) a a3 (wa f) = okA n lk ln c (cdS n ww (ww a)) (cdS n ww (ww b)) a a3 f := by
    unfold okA
    rw [Rd_cells ag.cells]
  rw [hok] at m1 m4
  have hAw := m_isAsk hw ha hb a3
  rw [ag.2.2.1 37 (by decide), ag.2.2.1 38 (by decide), decide_eq_false e4, decide_eq_false e5, decide_eq_false e6] at hAw
  have hAw : am_call 171 [.ref 50, .int (nI a), .int (nI b), .int a3] (wa f) = some (1, wa f) := hAw
  have agr : AgR (wa f) H := AgR.of (fun q hq => m2 q (fun z => hq (by rw [z]; decide)) (fun z => hq (by rw [z]; decide))) (fun j hj => m3 j (fun z => hj (by rw [z]; decide)))
  refine OP.ask hw (h := H) (r := if okA n lk ln c (cdS n ww (ww a)) (cdS n ww (ww b)) a a3 f = true then coA n lk ln (cdS n ww (ww a)) (cdS n ww (ww b)) a else -100000) ?_ ?_ ag agr
  · show am_call 89 [.ref 1, .int (nI a), .int (nI b), .int a3] f = _
    rw [eX8_ask_1, hcost, am_cal_some]
  · show am_call 172 [.ref 50, .int (nI a), .int (nI b), .int a3] (wa f) = _
    rw [eX9_ask_50, m_isSide, hw.n0, am_cal_some, e1, bi_t, if_neg one_ne, m_isSide, hw.n0, am_cal_some, e2, bi_t, if_neg one_ne, m_isDay, am_cal_some, e3, bi_t, if_neg one_ne, hAw, am_cal_some, if_neg one_ne, m1, am_cal_some]
    cases hq : okA n lk ln c (cdS n ww (ww a)) (cdS n ww (ww b)) a a3 f with
    | false => rw [bi_f, if_pos rfl, if_neg (by decide)]
    | true => rw [bi_t, if_neg one_ne, if_pos rfl, m4 hq]
/-- the town behind a passing -/
theorem ps_town {ww : Nat → Nat} {w : Nat → Int32} {a b : Nat} (hTW : TW n ww w) (ha : a < n) (hb : b < n) (hab : ww a ≠ ww b) (h9 : n ≤ 9) : TW n (fun s => if s = a then ww b else ww s) (rnW w (2 ^ a) (nI (ww b))) ∧ ∀ s, s < n → cdS n (fun s => if s = a then ww b else ww s) (if s = a then ww b else ww s) = (if s = a ∨ ww s = ww b then cdS n ww (ww b) ||| 2 ^ a else if ww s = ww a then cdS n ww (ww a) ^^^ 2 ^ a else cdS n ww (ww s)) := by
  have bit : ∀ j, (2 ^ a).testBit j = decide (a = j) := fun j => Nat.testBit_two_pow ..
  refine ⟨⟨fun s hs => ?_, fun s h1 h2 => ?_⟩, fun s hs => ?_⟩
  · unfold rnW
    rw [bit]
    by_cases e : a = s
    · subst e
      simp only [decide_true, if_true]
      exact ⟨trivial, (hTW.1 b hb).2⟩
    · have e' : ¬ s = a := fun z => e z.symm
      simp only [e, decide_false, Bool.false_eq_true, if_false, e']
      exact hTW.1 s hs
  · unfold rnW
    rw [bit, decide_eq_false (by omega)]
    exact hTW.2 s h1 h2
  · apply Nat.eq_of_testBit_eq
    intro v
    rw [cd_bit]
    by_cases c1 : s = a ∨ ww s = ww b
    · have e1 : (if s = a then ww b else ww s) = ww b := by
        by_cases z : s = a
        · rw [if_pos z]
        · rw [if_neg z]
          rcases c1 with y | y
          · exact absurd y z
          · exact y
      rw [if_pos c1, e1, Nat.testBit_or, cd_bit, bit]
      by_cases hv : v < n
      · by_cases ev : v = a
        · subst ev; simp [hv]
        · have ev' : ¬ a = v := fun z => ev z.symm
          simp [hv, ev, ev']
      · have ev' : ¬ a = v := by omega
        simp [hv, ev']
    · have c1a : ¬ s = a := fun z => c1 (Or.inl z)
      have c1b : ¬ ww s = ww b := fun z => c1 (Or.inr z)
      rw [if_neg c1, if_neg c1a]
      by_cases c2 : ww s = ww a
      · rw [if_pos c2, Nat.testBit_xor, cd_bit, bit, c2]
        by_cases hv : v < n
        · by_cases ev : v = a
          · subst ev
            have : ¬ ww b = ww v := fun z => hab z.symm
            simp [hv, this]
          · have ev' : ¬ a = v := fun z => ev z.symm
            simp [hv, ev, ev']
        · have ev' : ¬ a = v := by omega
          simp [hv, ev']
      · rw [if_neg c2, cd_bit]
        by_cases hv : v < n
        · by_cases ev : v = a
          · subst ev
            have z1 : ¬ ww b = ww s := fun z => c1b z.symm
            have z2 : ¬ ww v = ww s := fun z => c2 z.symm
            simp [hv, z1, z2]
          · simp [hv, ev]
        · simp [hv]
theorem op_pass (h : Iv n lk ln c mr t kc f) (a1 a2 a3 : Int32) : OP 90 173 [.int a1, .int a2, .int a3] f := by
  by_cases e1 : wi a1 0 (nI n - 1) = true
  case neg =>
    have e1 : wi a1 0 (nI n - 1) = false := by simpa using e1
    exact OP.same h (r := -1) (by rw [eX8_pass_1, eX8_costOfAsk_1, c_isSide, h.n7, am_cal_some, e1, bi_f, if_pos rfl, am_cal_some, if_pos rfl]) (by rw [eX9_pass_50, m_isSide, h.n0, am_cal_some, e1, bi_f, if_pos rfl])
  by_cases e2 : wi a2 0 (nI n - 1) = true
  case neg =>
    have e2 : wi a2 0 (nI n - 1) = false := by simpa using e2
    exact OP.same h (r := -1) (by rw [eX8_pass_1, eX8_costOfAsk_1, c_isSide, h.n7, am_cal_some, e1, bi_t, if_neg one_ne, c_isSide, h.n7, am_cal_some, e2, bi_f, if_pos rfl, am_cal_some, if_pos rfl]) (by rw [eX9_pass_50, m_isSide, h.n0, am_cal_some, e1, bi_t, if_neg one_ne, m_isSide, h.n0, am_cal_some, e2, bi_f, if_pos rfl])
  by_cases e3 : wi a3 0 14600 = true
  case neg =>
    have e3 : wi a3 0 14600 = false := by simpa using e3
    exact OP.same h (r := -1) (by rw [eX8_pass_1, eX8_costOfAsk_1, c_isSide, h.n7, am_cal_some, e1, bi_t, if_neg one_ne, c_isSide, h.n7, am_cal_some, e2, bi_t, if_neg one_ne, c_isDay, am_cal_some, e3, bi_f, if_pos rfl, am_cal_some, if_pos rfl]) (by rw [eX9_pass_50, m_isSide, h.n0, am_cal_some, e1, bi_t, if_neg one_ne, m_isSide, h.n0, am_cal_some, e2, bi_t, if_neg one_ne, m_isDay, am_cal_some, e3, bi_f, if_pos rfl])
  obtain ⟨a, ha, rfl⟩ := wi_side h.n9 e1
  obtain ⟨b, hb, rfl⟩ := wi_side h.n9 e2
  have h9 := h.n9
  have hA := m_isAsk h ha hb a3
  by_cases e4 : f 37 4 < 0
  · rw [decide_eq_true e4] at hA
    refine OP.same h (r := -2) ?_ ?_
    · rw [eX8_pass_1, eX8_costOfAsk_1, c_isSide, h.n7, am_cal_some, e1, bi_t, if_neg one_ne, c_isSide, h.n7, am_cal_some, e2, bi_t, if_neg one_ne, c_isDay, am_cal_some, e3, bi_t, if_neg one_ne, c_isGiven, am_cal_some, decide_eq_true e4, Bool.not_true, bi_f, if_pos rfl, am_cal_some, if_neg (by decide), if_pos rfl]
    · rw [eX9_pass_50, m_isSide, h.n0, am_cal_some, e1, bi_t, if_neg one_ne, m_isSide, h.n0, am_cal_some, e2, bi_t, if_neg one_ne, m_isDay, am_cal_some, e3, bi_t, if_neg one_ne, hA, am_cal_some, Bool.not_true, Bool.false_and, bi_f, if_pos rfl]
  rw [decide_eq_false e4] at hA
  by_cases e5 : a3 < f 37 4
  · rw [decide_eq_true e5] at hA
    refine OP.same h (r := -2) ?_ ?_
    · rw [eX8_pass_1, eX8_costOfAsk_1, c_isSide, h.n7, am_cal_some, e1, bi_t, if_neg one_ne, c_isSide, h.n7, am_cal_some, e2, bi_t, if_neg one_ne, c_isDay, am_cal_some, e3, bi_t, if_neg one_ne, c_isGiven, am_cal_some, decide_eq_false e4, Bool.not_false, bi_t, if_neg one_ne, if_pos e5, am_cal_some, if_neg (by decide), if_pos rfl]
    · rw [eX9_pass_50, m_isSide, h.n0, am_cal_some, e1, bi_t, if_neg one_ne, m_isSide, h.n0, am_cal_some, e2, bi_t, if_neg one_ne, m_isDay, am_cal_some, e3, bi_t, if_neg one_ne, hA, am_cal_some, Bool.not_true, Bool.and_false, Bool.and_false, bi_f, if_pos rfl]
  rw [decide_eq_false e5] at hA
  by_cases e6 : f 38 a = f 38 b
  · rw [decide_eq_true e6] at hA
    refine OP.same h (r := -2) ?_ ?_
    · rw [eX8_pass_1, eX8_costOfAsk_1, c_isSide, h.n7, am_cal_some, e1, bi_t, if_neg one_ne, c_isSide, h.n7, am_cal_some, e2, bi_t, if_neg one_ne, c_isDay, am_cal_some, e3, bi_t, if_neg one_ne, c_isGiven, am_cal_some, decide_eq_false e4, Bool.not_false, bi_t, if_neg one_ne, if_neg e5, eX6_wordOf_37, am_ald_in _ _ _ (show a < 9 by omega) (by decide), am_cal_some, eX6_wordOf_37, am_ald_in _ _ _ (show b < 9 by omega) (by decide), am_cal_some, if_pos e6, am_cal_some, if_neg (by decide), if_pos rfl]
    · rw [eX9_pass_50, m_isSide, h.n0, am_cal_some, e1, bi_t, if_neg one_ne, m_isSide, h.n0, am_cal_some, e2, bi_t, if_neg one_ne, m_isDay, am_cal_some, e3, bi_t, if_neg one_ne, hA, am_cal_some, Bool.not_true, Bool.false_and, Bool.and_false, bi_f, if_pos rfl]
  rw [decide_eq_false e6] at hA
  have hA : am_call 171 [.ref 50, .int (nI a), .int (nI b), .int a3] f = some (1, f) := hA
  rcases h.gv with ⟨z, -⟩ | ⟨-, ww, ed, dl, hg⟩
  · exact absurd z e4
  obtain ⟨a1', a2'⟩ := hg.2.1.1 a ha
  obtain ⟨b1', b2'⟩ := hg.2.1.1 b hb
  have a1' : f 38 a = nI (ww a) := a1'
  have b1' : f 38 b = nI (ww b) := b1'
  have hab : ww a ≠ ww b := fun z => e6 (by rw [a1', b1', z])
  have hcost := h.c_cost hg ha hb hab e3 e5
  obtain ⟨hw, ag⟩ := h.waI
  
  have hgw : GvT n lk ln ww ed dl 37 (wa f) := by
    unfold GvT at hg ⊢
    simp only [Nat.reduceAdd] at hg ⊢
    rw [ag.2.2.1 37 (by decide), ag.2.2.1 38 (by decide), ag.2.2.1 40 (by decide)]
    exact hg
  have hok : okA n lk ln c (cdS n ww (ww a)) (cdS n ww (ww b)) a a3 (wa f) = okA n lk ln c (cdS n ww (ww a)) (cdS n ww (ww b)) a a3 f := by
    unfold okA
    rw [Rd_cells ag.cells]
  have hAw := m_isAsk hw ha hb a3
  rw [ag.2.2.1 37 (by decide), ag.2.2.1 38 (by decide), decide_eq_false e4, decide_eq_false e5, decide_eq_false e6] at hAw
  have hAw : am_call 171 [.ref 50, .int (nI a), .int (nI b), .int a3] (wa f) = some (1, wa f) := hAw
  cases hq : okA n lk ln c (cdS n ww (ww a)) (cdS n ww (ww b)) a a3 f with
  | false =>
    obtain ⟨H, m1, m2, m3, m4⟩ := hw.m_mayPass (g := wa f) (ME.of (fun _ _ => rfl)) hgw ha hb a3
    rw [hok, hq] at m1
    rw [hq] at hcost
    have agr : AgR (wa f) H := AgR.of (fun q hq => m2 q (fun z => hq (by rw [z]; decide)) (fun z => hq (by rw [z]; decide))) (fun j hj => m3 j (fun z => hj (by rw [z]; decide)))
    refine OP.ask hw (h := H) (r := -2) ?_ ?_ ag agr
    · show am_call 90 [.ref 1, .int (nI a), .int (nI b), .int a3] f = _
      rw [eX8_pass_1, hcost, am_cal_some, if_neg (show ¬ false = true by decide), if_neg (by decide), if_neg (by decide), if_pos rfl]
    · show am_call 173 [.ref 50, .int (nI a), .int (nI b), .int a3] (wa f) = _
      rw [eX9_pass_50, m_isSide, hw.n0, am_cal_some, e1, bi_t, if_neg one_ne, m_isSide, hw.n0, am_cal_some, e2, bi_t, if_neg one_ne, m_isDay, am_cal_some, e3, bi_t, if_neg one_ne, hAw, am_cal_some, if_neg one_ne, m1, am_cal_some, bi_f, if_pos rfl]
  | true =>
    obtain ⟨d3, hd3, rfl⟩ := wi_day e3
    rw [hq, if_pos rfl] at hcost
    have la := cd_lt n ww (ww a)
    have lb := cd_lt n ww (ww b)
    obtain ⟨n1, n2, n3⟩ := coA_ne h la lb ha (hg.2.2.2.2.2.2.1 a ha) (hg.2.2.2.2.2.2.1 b hb) hq
    have h5 := pow9 h9
    have hp : 2 ^ a < 512 := Nat.lt_of_lt_of_le (Nat.pow_lt_pow_right (by decide) ha) h5
    obtain ⟨G0, c1, c2, c3⟩ := c_renameAll (g := wa f) (S := 2 ^ a) (y := ww b) hw.c3 h.c40 hp b2' (nI d3) hw.okW (hw.CT0 (fun q _ => rfl))
    have wb1 : wa f 38 b = nI (ww b) := by rw [ag.2.2.1 38 (by decide)]; exact b1'
    have hC : am_call 90 [.ref 1, .int (nI a), .int (nI b), .int (nI d3)] f = some (nI (ww b), am_up G0 37 4 (nI d3)) := by
      rw [eX8_pass_1, hcost, am_cal_some, if_neg n1, if_neg n2, if_neg n3, eX6_wordOf_37, am_ald_in _ _ _ (show b < 9 by omega) (by decide), wb1, am_cal_some, shl_one (by omega), c1, am_cal_some]
    have hGG : ∀ q, q ∉ [37, 38, 39] → am_up G0 37 4 (nI d3) q = wa f q := fun q hq => by
      simp only [List.mem_cons, List.not_mem_nil, or_false, not_or] at hq
      rw [am_up_ne hq.1, c2 q hq.2.1 hq.2.2]
    have hG3 : am_up G0 37 4 (nI d3) 37 3 = wa f 37 3 := by rw [am_up_j (by decide), c2 37 (by decide) (by decide)]
    have hG4 : am_up G0 37 4 (nI d3) 37 4 = nI d3 := am_up_same _ _ _ _
    have hGC : CT (rnW (wa f 38) (2 ^ a) (nI (ww b))) (rnV (wa f 38) (fun s x => wa f 39 (s * 36 + x)) (2 ^ a) (nI (ww b)) (nI d3 + vO (wa f) c 2 (nI d3))) (am_up G0 37 4 (nI d3)) := ⟨fun s hs => by rw [am_up_ne (by decide)]; exact c3.1 s hs, fun s x hs hx => by rw [am_up_ne (by decide)]; exact c3.2 s x hs hx⟩
    generalize am_up G0 37 4 (nI d3) = G at hC hGG hG3 hG4 hGC
    have me : ME (wa f) G := ME.of (fun q hq => hGG q (by simp only [List.mem_cons, List.not_mem_nil, or_false]; omega))
    -- the reference
    have hAG : am_call 171 [.ref 50, .int (nI a), .int (nI b), .int (nI d3)] G = some (1, G) := by
      have ga : G 60 a = nI (ww a) := by rw [me.1 60 (by decide) (by decide), hw.tw a (by omega), ag.2.2.1 38 (by decide)]; exact a1'
      have gb : G 60 b = nI (ww b) := by rw [me.1 60 (by decide) (by decide), hw.tw b (by omega)]; exact wb1
      have gl : G 62 0 = f 37 4 := by rw [me.1 62 (by decide) (by decide), hw.tl, ag.2.2.1 37 (by decide)]
      rw [eX9_isAsk_50, am_ald_in _ _ _ (show a < 27 by omega) (by decide), am_ald_in _ _ _ (show b < 27 by omega) (by decide), am_ald_in _ _ _ (show a < 27 by omega) (by decide), am_ald_in _ _ _ (show b < 27 by omega) (by decide), ald_0 _ _ _ (by decide) (by decide), ga, gb, gl, if_neg (nI_pos (by omega)), if_neg (nI_pos (by omega)), if_neg (fun z => hab ((nI_eq (by omega) (by omega)).mp z)), if_neg e5, am_z1]
    obtain ⟨H0, m1, m2, m3, m4⟩ := hw.m_mayPass me hgw ha hb (nI d3)
    rw [hok, hq, bi_t] at m1
    have me0 : ME (wa f) H0 := me.step (fun q h1 h2 => m2 q (by omega) (by omega)) (m3 0 (by decide))
    obtain ⟨H1, r1, r2, r3, r4, r5⟩ := m_get (f := wa f) (c := c) (o := vO (wa f) c 2 (nI d3)) (hw.e_ov me0) (hw.MT0 me0) hw.okW (show a < 9 by omega) (nI (ww b)) (nI d3) rfl
    have h0b : H0 60 b = nI (ww b) := by rw [me0.1 60 (by decide) (by decide), hw.tw b (by omega)]; exact wb1
    have h1a : H1 60 a = nI (ww b) := by
      rw [r3.1 a (by omega)]
      unfold rnW
      rw [Nat.testBit_two_pow, decide_eq_true rfl]; rfl
    have z62 : ∀ (x : Int32) (c : Hp → Option Rs), am_ast H1 62 3 0 x c = c (am_up H1 62 0 x) := fun x c => am_ast_in (j := 0) _ _ _ c (by decide) (by decide)
    have hD : am_call 173 [.ref 50, .int (nI a), .int (nI b), .int (nI d3)] G = some (nI (ww b), am_up H1 62 0 (nI d3)) := by
      rw [eX9_pass_50, m_isSide, hw.e_n me, am_cal_some, e1, bi_t, if_neg one_ne, m_isSide, hw.e_n me, am_cal_some, e2, bi_t, if_neg one_ne, m_isDay, am_cal_some, e3, bi_t, if_neg one_ne, hAG, am_cal_some, if_neg one_ne, m1, am_cal_some, if_neg one_ne, am_ald_in _ _ _ (show b < 27 by omega) (by decide), h0b, r1, am_cal_some, z62, am_ald_in _ _ _ (show a < 27 by omega) (by decide), am_up_ne (by decide), h1a]
    obtain ⟨hTW', hcd⟩ := ps_town (n := n) (ww := ww) (w := wa f 38) (a := a) (b := b) hgw.2.1 ha hb hab h9
    have hHG : ∀ q, q < 50 ∨ q = 77 ∨ (51 ≤ q ∧ q ≤ 64 ∧ q ≠ 60 ∧ q ≠ 61 ∧ q ≠ 62) → am_up H1 62 0 (nI d3) q = G q := fun q hq => by
      rw [am_up_ne (by omega), r2 q (by omega) (by omega), m2 q (by omega) (by omega)]
    have hH50 : ∀ j, j ≠ 30 → am_up H1 62 0 (nI d3) 50 j = G 50 j := fun j h1 => by
      rw [am_up_ne (by decide), r2 50 (by decide) (by decide), m3 j h1]
    refine OP.act hC hD ⟨by rw [hGG 0 (by decide), ag.2.1], by rw [hGG 77 (by decide), ag.1 77 (by decide)]⟩ ⟨hHG 0 (by decide), hHG 77 (by decide)⟩ (hw.acted (G := G) (d := d3) (ww' := fun s => if s = a then ww b else ww s) hGG hG3 hG4 hd3 hGC (fun q hq => hHG q (Or.inl hq)) (hH50 0 (by decide)) (hH50 6 (by decide)) (hH50 16 (by decide)) (fun q h1 h2 h3 => hHG q (Or.inr (Or.inr ?_))) (fun j hj => ?_) (fun j hj => ?_) (fun j hj => ?_) (am_up_same _ _ _ _) ?_ hg.1 hTW' (fun s hs => ?_))
    · simp only [List.mem_cons, List.not_mem_nil, or_false, not_or] at h3
      omega
    · rw [am_up_ne (by decide), r4 j hj, m2 60 (by decide) (by decide)]
    · rw [am_up_ne (by decide), r5 j hj, m2 61 (by decide) (by decide)]
    · rw [am_up_j (by omega), r2 62 (by decide) (by decide), m2 62 (by decide) (by decide)]
    · exact ⟨fun s hs => by rw [am_up_ne (by decide)]; exact r3.1 s hs, fun s x hs hx => by rw [am_up_ne (by decide)]; exact r3.2 s x hs hx⟩
    · have := hcd s hs
      show WS lk ln n (cdS n (fun s => if s = a then ww b else ww s) (if s = a then ww b else ww s)) ≠ none
      rw [this]
      unfold okA at hq
      simp only [Bool.and_eq_true, Bool.or_eq_true, decide_eq_true_eq] at hq
      by_cases q1 : s = a ∨ ww s = ww b
      · rw [if_pos q1]
        exact Rd_some hq.1
      · rw [if_neg q1]
        by_cases q2 : ww s = ww a
        · rw [if_pos q2]
          rcases hq.2 with z | z
          · -- the side itself is left in its code
            exfalso
            have b1 : (cdS n ww (ww a) ^^^ 2 ^ a).testBit s = true := by
              rw [Nat.testBit_xor, cd_bit, Nat.testBit_two_pow, decide_eq_true hs, decide_eq_true q2, decide_eq_false (fun z => q1 (Or.inl z.symm))]; rfl
            rw [z, Nat.zero_testBit] at b1
            cases b1
          · exact Rd_some z
        · rw [if_neg q2]
          exact hg.2.2.2.2.2.2.1 s hs
end Ops12

