section Ops1
variable {n : Nat} {lk ln : Nat → Nat} {c : Nat} {mr : Nat → Nat} {t kc : Nat} {f g : Hp}
theorem op_doors (h : Iv n lk ln c mr t kc f) (a1 a2 : Int32) : OP 68 127 [.int a1, .int a2] f := by
  by_cases e1 : wi a1 0 (nI n - 1) = true
  case neg =>
    have e1 : wi a1 0 (nI n - 1) = false := by simpa using e1
    exact OP.same h (r := -1) (by rw [eX8_doors_1, c_isSide, h.n7, am_cal_some, e1, bi_f, if_pos rfl]) (by rw [eX9_doors_50, m_isSide, h.n0, am_cal_some, e1, bi_f, if_pos rfl])
  by_cases e2 : wi a2 0 14600 = true
  case neg =>
    have e2 : wi a2 0 14600 = false := by simpa using e2
    exact OP.same h (r := -1) (by rw [eX8_doors_1, c_isSide, h.n7, am_cal_some, e1, bi_t, if_neg one_ne, c_isDay, am_cal_some, e2, bi_f, if_pos rfl]) (by rw [eX9_doors_50, m_isSide, h.n0, am_cal_some, e1, bi_t, if_neg one_ne, m_isDay, am_cal_some, e2, bi_f, if_pos rfl])
  obtain ⟨s, hs, rfl⟩ := wi_side h.n9 e1
  have h9 := h.n9
  have hp : 2 ^ s < 2 ^ 9 := Nat.pow_lt_pow_right (by decide) (by omega)
  refine OP.same h (r := f 3 s + f 4 s * (a2 / 365)) ?_ ?_
  · rw [eX8_doors_1, c_isSide, h.n7, am_cal_some, e1, bi_t, if_neg one_ne, c_isDay, am_cal_some, e2, bi_t, if_neg one_ne, shl_one (by omega), c_doorsOf h.n7 h.n9 (by omega), am_cal_some, dSum_single hs]
  · rw [eX9_doors_50, m_isSide, h.n0, am_cal_some, e1, bi_t, if_neg one_ne, m_isDay, am_cal_some, e2, bi_t, if_neg one_ne, m_doorsAt (by omega), am_cal_some, h.1.2.1.2.1, h.1.2.1.2.2.1]
theorem op_walk (h : Iv n lk ln c mr t kc f) (a1 : Int32) : OP 69 131 [.int a1] f := by
  by_cases e1 : wi a1 1 (nI (2 ^ n - 1)) = true
  case neg =>
    have e1 : wi a1 1 (nI (2 ^ n - 1)) = false := by simpa using e1
    exact OP.same h (r := -1) (by rw [eX8_walk_1, c_isShape, h.n7, all_eq h.n9, am_cal_some, e1, bi_f, if_pos rfl]) (by rw [eX9_walk_50, m_isShape, h.n0, all_eq h.n9, am_cal_some, e1, bi_f, if_pos rfl])
  obtain ⟨S, hS1, hS, rfl⟩ := wi_shape h.n9 e1
  obtain ⟨hw, ha⟩ := h.waI
  obtain ⟨g, g1, g2, g3, g4⟩ := hw.layFrom
  refine OP.ask hw (r := enc (-4) (WS lk ln n S)) ?_ ?_ ha g2
  · rw [eX8_walk_1, c_isShape, h.n7, all_eq h.n9, am_cal_some, e1, bi_t, if_neg one_ne, h.leastWalk hS1 hS, am_cal_some, WS_enc h.n9 h.lb h.nb hS]
  · rw [eX9_walk_50, m_isShape, hw.n0, all_eq hw.n9, am_cal_some, e1, bi_t, if_neg one_ne, g1, am_cal_some, (hw.ref g2).walkOf g3 hS1 hS, am_cal_some]
theorem op_row (h : Iv n lk ln c mr t kc f) (a1 a2 : Int32) : OP 70 132 [.int a1, .int a2] f := by
  by_cases e1 : wi a1 1 (nI (2 ^ n - 1)) = true
  case neg =>
    have e1 : wi a1 1 (nI (2 ^ n - 1)) = false := by simpa using e1
    exact OP.same h (r := -1) (by rw [eX8_row_1, c_isShape, h.n7, all_eq h.n9, am_cal_some, e1, bi_f, if_pos rfl]) (by rw [eX9_row_50, m_isShape, h.n0, all_eq h.n9, am_cal_some, e1, bi_f, if_pos rfl])
  by_cases e2 : a2 < 0
  case pos =>
    exact OP.same h (r := -1) (by rw [eX8_row_1, c_isShape, h.n7, all_eq h.n9, am_cal_some, e1, bi_t, if_neg one_ne, if_pos e2]) (by rw [eX9_row_50, m_isShape, h.n0, all_eq h.n9, am_cal_some, e1, bi_t, if_neg one_ne, if_pos e2])
  obtain ⟨S, hS1, hS, rfl⟩ := wi_shape h.n9 e1
  obtain ⟨p, hp, rfl⟩ := nn_of e2
  obtain ⟨hw, ha⟩ := h.waI
  obtain ⟨T, t1⟩ := m_row hw.ms hS1 hS hp (by rw [m_isShape, hw.n0, all_eq hw.n9, e1]; rfl)
  refine OP.ask hw (r := rowV lk ln n S p) ?_ t1 ha (AgR.of (fun q hq => setC_ne (fun z => hq (by rw [z]; decide))) (fun j _ => by rw [setC_ne (by decide)]))
  rw [eX8_row_1, c_isShape, h.n7, all_eq h.n9, am_cal_some, e1, bi_t, if_neg one_ne, if_neg e2, c_sideInRow h.cs h.wc hS1 hS hp, am_cal_some]
theorem op_right (h : Iv n lk ln c mr t kc f) (a1 a2 : Int32) : OP 71 148 [.int a1, .int a2] f := by
  by_cases e1 : wi a1 1 (nI (2 ^ n - 1)) = true
  case neg =>
    have e1 : wi a1 1 (nI (2 ^ n - 1)) = false := by simpa using e1
    exact OP.same h (r := -1) (by rw [eX8_right_1, c_isShape, h.n7, all_eq h.n9, am_cal_some, e1, bi_f, if_pos rfl]) (by rw [eX9_right_50, m_isShape, h.n0, all_eq h.n9, am_cal_some, e1, bi_f, if_pos rfl])
  by_cases e2 : wi a2 0 14600 = true
  case neg =>
    have e2 : wi a2 0 14600 = false := by simpa using e2
    exact OP.same h (r := -1) (by rw [eX8_right_1, c_isShape, h.n7, all_eq h.n9, am_cal_some, e1, bi_t, if_neg one_ne, c_isDay, am_cal_some, e2, bi_f, if_pos rfl]) (by rw [eX9_right_50, m_isShape, h.n0, all_eq h.n9, am_cal_some, e1, bi_t, if_neg one_ne, m_isDay, am_cal_some, e2, bi_f, if_pos rfl])
  obtain ⟨S, hS1, hS, rfl⟩ := wi_shape h.n9 e1
  obtain ⟨hw, ha⟩ := h.waI
  obtain ⟨g, g1, g2, g3, g4⟩ := hw.layFrom
  have hR : Rd (g 3) (g 4) (g 17) (g 18) (g 19) n c lk ln a2 S = Rd (f 3) (f 4) (f 17) (f 18) (f 19) n c lk ln a2 S := by
    rw [g2.1 3 (by decide), g2.1 4 (by decide), g2.1 17 (by decide), g2.1 18 (by decide), g2.1 19 (by decide), ha.2.2.1 3 (by decide), ha.2.2.1 4 (by decide), ha.2.2.1 17 (by decide), ha.2.2.1 18 (by decide), ha.2.2.1 19 (by decide)]
  refine OP.ask hw (r := bi (Rd (f 3) (f 4) (f 17) (f 18) (f 19) n c lk ln a2 S)) ?_ ?_ ha g2
  · rw [eX8_right_1, c_isShape, h.n7, all_eq h.n9, am_cal_some, e1, bi_t, if_neg one_ne, c_isDay, am_cal_some, e2, bi_t, if_neg one_ne, h.c_right hS1 hS, am_cal_some]
    cases Rd (f 3) (f 4) (f 17) (f 18) (f 19) n c lk ln a2 S <;> rfl
  · rw [eX9_right_50, m_isShape, hw.n0, all_eq hw.n9, am_cal_some, e1, bi_t, if_neg one_ne, m_isDay, am_cal_some, e2, bi_t, if_neg one_ne, g1, am_cal_some, (hw.ref g2).m_right g3 hS1 hS, hR, am_cal_some]
    cases Rd (f 3) (f 4) (f 17) (f 18) (f 19) n c lk ln a2 S <;> rfl
theorem op_rule (h : Iv n lk ln c mr t kc f) (a1 a2 : Int32) : OP 77 143 [.int a1, .int a2] f := by
  by_cases e1 : wi a1 0 2 = true
  case neg =>
    have e1 : wi a1 0 2 = false := by simpa using e1
    exact OP.same h (r := -1) (by rw [eX8_rule_1, c_within', am_cal_some, e1, bi_f, if_pos rfl]) (by rw [eX9_rule_50, m_in' _ a1 0 2 (by decide) (by decide), am_cal_some, e1, bi_f, if_pos rfl])
  by_cases e2 : wi a2 0 14600 = true
  case neg =>
    have e2 : wi a2 0 14600 = false := by simpa using e2
    exact OP.same h (r := -1) (by rw [eX8_rule_1, c_within', am_cal_some, e1, bi_t, if_neg one_ne, c_isDay, am_cal_some, e2, bi_f, if_pos rfl]) (by rw [eX9_rule_50, m_in' _ a1 0 2 (by decide) (by decide), am_cal_some, e1, bi_t, if_neg one_ne, m_isDay, am_cal_some, e2, bi_f, if_pos rfl])
  refine OP.same h (r := vO f c a1 a2) ?_ ?_
  · rw [eX8_rule_1, c_within', am_cal_some, e1, bi_t, if_neg one_ne, c_isDay, am_cal_some, e2, bi_t, if_neg one_ne, h.c_val, am_cal_some]
  · rw [eX9_rule_50, m_in' _ a1 0 2 (by decide) (by decide), am_cal_some, e1, bi_t, if_neg one_ne, m_isDay, am_cal_some, e2, bi_t, if_neg one_ne, h.m_val, am_cal_some]
theorem op_why (h : Iv n lk ln c mr t kc f) (a1 a2 : Int32) : OP 78 144 [.int a1, .int a2] f := by
  by_cases e1 : wi a1 0 2 = true
  case neg =>
    have e1 : wi a1 0 2 = false := by simpa using e1
    exact OP.same h (r := -1) (by rw [eX8_why_1, c_within', am_cal_some, e1, bi_f, if_pos rfl]) (by rw [eX9_why_50, m_in' _ a1 0 2 (by decide) (by decide), am_cal_some, e1, bi_f, if_pos rfl])
  by_cases e2 : wi a2 0 14600 = true
  case neg =>
    have e2 : wi a2 0 14600 = false := by simpa using e2
    exact OP.same h (r := -1) (by rw [eX8_why_1, c_within', am_cal_some, e1, bi_t, if_neg one_ne, c_isDay, am_cal_some, e2, bi_f, if_pos rfl]) (by rw [eX9_why_50, m_in' _ a1 0 2 (by decide) (by decide), am_cal_some, e1, bi_t, if_neg one_ne, m_isDay, am_cal_some, e2, bi_f, if_pos rfl])
  refine OP.same h (r := enc (-4) (lastIx (pIt (letC a1) a2 (f 17) (f 19)) c)) ?_ ?_
  · rw [eX8_why_1, c_within', am_cal_some, e1, bi_t, if_neg one_ne, c_isDay, am_cal_some, e2, bi_t, if_neg one_ne, c_itemOn h.c3 h.c40, am_cal_some]
    cases hl : lastIx (pIt (letC a1) a2 (f 17) (f 19)) c with
    | none => rw [enc_none, if_pos (by decide), enc_none]
    | some k =>
      have hk := lastIx_lt hl
      have h40 := h.c40
      rw [enc_some, if_neg (nI_pos (by omega)), enc_some]
  · rw [eX9_why_50, m_in' _ a1 0 2 (by decide) (by decide), am_cal_some, e1, bi_t, if_neg one_ne, m_isDay, am_cal_some, e2, bi_t, if_neg one_ne, m_whyOf h.c1 h.c40, am_cal_some, h.lastI]
theorem op_read (h : Iv n lk ln c mr t kc f) (a1 a2 : Int32) : OP 81 157 [.int a1, .int a2] f := by
  by_cases e1 : wi a1 0 35 = true
  case neg =>
    have e1 : wi a1 0 35 = false := by simpa using e1
    exact OP.same h (r := -1) (by rw [eX8_read_1, c_isWord, am_cal_some, e1, bi_f, if_pos rfl]) (by rw [eX9_read_50, m_isWord, am_cal_some, e1, bi_f, if_pos rfl])
  by_cases e2 : wi a2 0 35 = true
  case neg =>
    have e2 : wi a2 0 35 = false := by simpa using e2
    exact OP.same h (r := -1) (by rw [eX8_read_1, c_isWord, am_cal_some, e1, bi_t, if_neg one_ne, c_isWord, am_cal_some, e2, bi_f, if_pos rfl]) (by rw [eX9_read_50, m_isWord, am_cal_some, e1, bi_t, if_neg one_ne, m_isWord, am_cal_some, e2, bi_f, if_pos rfl])
  obtain ⟨w, hw, rfl⟩ := wi_word e1
  obtain ⟨v, hv, rfl⟩ := wi_word e2
  refine OP.same h (r := rdW (f 21) w v) ?_ ?_
  · rw [eX8_read_1, c_isWord, am_cal_some, e1, bi_t, if_neg one_ne, c_isWord, am_cal_some, e2, bi_t, if_neg one_ne, c_readAs hw hv, am_cal_some]
  · rw [eX9_read_50, m_isWord, am_cal_some, e1, bi_t, if_neg one_ne, m_isWord, am_cal_some, e2, bi_t, if_neg one_ne, m_readAs hw hv, am_cal_some, h.M.1]
theorem op_code (h : Iv n lk ln c mr t kc f) (a1 a2 : Int32) : OP 91 174 [.int a1, .int a2] f := by
  by_cases e1 : wi a1 0 (nI n - 1) = true
  case neg =>
    have e1 : wi a1 0 (nI n - 1) = false := by simpa using e1
    exact OP.same h (r := -1) (by rw [eX8_code_1, c_isSide, h.n7, am_cal_some, e1, bi_f, if_pos rfl]) (by rw [eX9_code_50, m_isSide, h.n0, am_cal_some, e1, bi_f, if_pos rfl])
  by_cases e2 : wi a2 0 1 = true
  case neg =>
    have e2 : wi a2 0 1 = false := by simpa using e2
    exact OP.same h (r := -1) (by rw [eX8_code_1, c_isSide, h.n7, am_cal_some, e1, bi_t, if_neg one_ne, c_within', am_cal_some, e2, bi_f, if_pos rfl]) (by rw [eX9_code_50, m_isSide, h.n0, am_cal_some, e1, bi_t, if_neg one_ne, m_in' _ a2 0 1 (by decide) (by decide), am_cal_some, e2, bi_f, if_pos rfl])
  obtain ⟨s, hs, rfl⟩ := wi_side h.n9 e1
  have h9 := h.n9
  by_cases e3 : f 38 s < 0
  case pos =>
    refine OP.same h (r := -4) ?_ ?_
    · rw [eX8_code_1, c_isSide, h.n7, am_cal_some, e1, bi_t, if_neg one_ne, c_within', am_cal_some, e2, bi_t, if_neg one_ne, eX6_wordOf_37, am_ald_in _ _ _ (show s < 9 by omega) (by decide), am_cal_some, if_pos e3]
    · rw [eX9_code_50, m_isSide, h.n0, am_cal_some, e1, bi_t, if_neg one_ne, m_in' _ a2 0 1 (by decide) (by decide), am_cal_some, e2, bi_t, if_neg one_ne, am_ald_in _ _ _ (show s < 27 by omega) (by decide), h.tw s (by omega), if_pos e3]
  by_cases e4 : a2 = 0
  case pos =>
    refine OP.same h (r := f 38 s) ?_ ?_
    · rw [eX8_code_1, c_isSide, h.n7, am_cal_some, e1, bi_t, if_neg one_ne, c_within', am_cal_some, e2, bi_t, if_neg one_ne, eX6_wordOf_37, am_ald_in _ _ _ (show s < 9 by omega) (by decide), am_cal_some, if_neg e3, if_pos e4]
    · rw [eX9_code_50, m_isSide, h.n0, am_cal_some, e1, bi_t, if_neg one_ne, m_in' _ a2 0 1 (by decide) (by decide), am_cal_some, e2, bi_t, if_neg one_ne, am_ald_in _ _ _ (show s < 27 by omega) (by decide), h.tw s (by omega), if_neg e3, if_pos e4, am_ald_in _ _ _ (show s < 27 by omega) (by decide), h.tw s (by omega)]
  have e5 : f 38 s ≠ -1 := fun z => e3 (by rw [z]; decide)
  refine OP.same h (r := nI (wSet (f 38) (f 38 s) 9)) ?_ ?_
  · rw [eX8_code_1, c_isSide, h.n7, am_cal_some, e1, bi_t, if_neg one_ne, c_within', am_cal_some, e2, bi_t, if_neg one_ne, eX6_wordOf_37, am_ald_in _ _ _ (show s < 9 by omega) (by decide), am_cal_some, if_neg e3, if_neg e4, c_sidesWith, am_cal_some]
  · rw [eX9_code_50, m_isSide, h.n0, am_cal_some, e1, bi_t, if_neg one_ne, m_in' _ a2 0 1 (by decide) (by decide), am_cal_some, e2, bi_t, if_neg one_ne, am_ald_in _ _ _ (show s < 27 by omega) (by decide), h.tw s (by omega), if_neg e3, if_neg e4, am_ald_in _ _ _ (show s < 27 by omega) (by decide), h.tw s (by omega), m_codeOf h.n0 h9, am_cal_some, h.cod e5]
theorem op_lead (h : Iv n lk ln c mr t kc f) (a1 a2 : Int32) : OP 92 175 [.int a1, .int a2] f := by
  by_cases e1 : wi a1 0 35 = true
  case neg =>
    have e1 : wi a1 0 35 = false := by simpa using e1
    exact OP.same h (r := -1) (by rw [eX8_lead_1, c_isWord, am_cal_some, e1, bi_f, if_pos rfl]) (by rw [eX9_lead_50, m_isWord, am_cal_some, e1, bi_f, if_pos rfl])
  by_cases e2 : wi a2 0 14600 = true
  case neg =>
    have e2 : wi a2 0 14600 = false := by simpa using e2
    exact OP.same h (r := -1) (by rw [eX8_lead_1, c_isWord, am_cal_some, e1, bi_t, if_neg one_ne, c_isDay, am_cal_some, e2, bi_f, if_pos rfl]) (by rw [eX9_lead_50, m_isWord, am_cal_some, e1, bi_t, if_neg one_ne, m_isDay, am_cal_some, e2, bi_f, if_pos rfl])
  by_cases e3 : a2 < f 37 4
  case pos =>
    exact OP.same h (r := -2) (by rw [eX8_lead_1, c_isWord, am_cal_some, e1, bi_t, if_neg one_ne, c_isDay, am_cal_some, e2, bi_t, if_neg one_ne, if_pos e3]) (by rw [eX9_lead_50, m_isWord, am_cal_some, e1, bi_t, if_neg one_ne, m_isDay, am_cal_some, e2, bi_t, if_neg one_ne, ald_0 _ _ _ (by decide) (by decide), h.tl, if_pos e3])
  obtain ⟨w, hw, rfl⟩ := wi_word e1
  by_cases e4 : nI (ledS (f 38) (fun s => f 39 (s * 36 + w)) (nI w) a2 9 9) = 0
  · refine OP.same h (r := -4) ?_ ?_
    · rw [eX8_lead_1, c_isWord, am_cal_some, e1, bi_t, if_neg one_ne, c_isDay, am_cal_some, e2, bi_t, if_neg one_ne, if_neg e3, c_ledTo hw, am_cal_some, if_pos e4]
    · rw [eX9_lead_50, m_isWord, am_cal_some, e1, bi_t, if_neg one_ne, m_isDay, am_cal_some, e2, bi_t, if_neg one_ne, ald_0 _ _ _ (by decide) (by decide), h.tl, if_neg e3, m_leadOf h.n0 h.n9 hw, h.led hw, am_cal_some, if_pos e4]
  · refine OP.same h (r := nI (ledS (f 38) (fun s => f 39 (s * 36 + w)) (nI w) a2 9 9)) ?_ ?_
    · rw [eX8_lead_1, c_isWord, am_cal_some, e1, bi_t, if_neg one_ne, c_isDay, am_cal_some, e2, bi_t, if_neg one_ne, if_neg e3, c_ledTo hw, am_cal_some, if_neg e4]
    · rw [eX9_lead_50, m_isWord, am_cal_some, e1, bi_t, if_neg one_ne, m_isDay, am_cal_some, e2, bi_t, if_neg one_ne, ald_0 _ _ _ (by decide) (by decide), h.tl, if_neg e3, m_leadOf h.n0 h.n9 hw, h.led hw, am_cal_some, if_neg e4]
end Ops1

