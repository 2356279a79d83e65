section Ops8
variable {n : Nat} {lk ln : Nat → Nat} {c : Nat} {mr : Nat → Nat} {t kc : Nat} {f g : Hp}
/-- the reference's word, where codes are not given and the class's heap has changed elsewhere -/
theorem Iv.areG0 (h : Iv n lk ln c mr t kc f) (e5 : f 37 4 < 0) (h50 : g 50 0 = f 50 0) (h60 : g 60 = f 60) : am_call 123 [.ref 50] g = some (0, g) := by
  have h9 := h.n9
  have key : am_run 123 4 [.ref 50, .int 0, .int 0] [] g = _ := m_areG (f := g) (n := n) n 0 false (by omega) h9 (by rw [h50]; exact h.n0)
  have hfa := h.areGiven
  rw [eX9_areGiven_50] at hfa
  have keyf : am_run 123 4 [.ref 50, .int 0, .int 0] [] f = _ := m_areG (f := f) (n := n) n 0 false (by omega) h9 h.n0
  rw [keyf, decide_eq_true e5] at hfa
  have e := (Prod.mk.inj (Option.some.inj hfa)).1
  rw [eX9_areGiven_50, key, h60, e]; rfl
theorem op_link (h : Iv n lk ln c mr t kc f) (a1 a2 a3 : Int32) : OP 67 125 [.int a1, .int a2, .int a3] f := by
  by_cases e1 : wi a1 0 (nI n - 1) = true
  case neg =>
    have e1 : wi a1 0 (nI n - 1) = false := by simpa using e1
    exact OP.same h (r := -1) (by rw [eX8_link_1, c_isSide, h.n7, am_cal_some, e1, bi_f, if_pos rfl]) (by rw [eX9_link_50, m_isSide, h.n0, am_cal_some, e1, bi_f, if_pos rfl])
  by_cases e2 : wi a2 0 (nI n - 1) = true
  case neg =>
    have e2 : wi a2 0 (nI n - 1) = false := by simpa using e2
    exact OP.same h (r := -1) (by rw [eX8_link_1, c_isSide, h.n7, am_cal_some, e1, bi_t, if_neg one_ne, c_isSide, h.n7, am_cal_some, e2, bi_f, if_pos rfl]) (by rw [eX9_link_50, m_isSide, h.n0, am_cal_some, e1, bi_t, if_neg one_ne, m_isSide, h.n0, am_cal_some, e2, bi_f, if_pos rfl])
  by_cases e3 : a1 = a2
  case pos =>
    exact OP.same h (r := -1) (by rw [eX8_link_1, c_isSide, h.n7, am_cal_some, e1, bi_t, if_neg one_ne, c_isSide, h.n7, am_cal_some, e2, bi_t, if_neg one_ne, if_pos e3]) (by rw [eX9_link_50, m_isSide, h.n0, am_cal_some, e1, bi_t, if_neg one_ne, m_isSide, h.n0, am_cal_some, e2, bi_t, if_neg one_ne, if_pos e3])
  by_cases e4 : wi a3 0 500 = true
  case neg =>
    have e4 : wi a3 0 500 = false := by simpa using e4
    exact OP.same h (r := -1) (by rw [eX8_link_1, c_isSide, h.n7, am_cal_some, e1, bi_t, if_neg one_ne, c_isSide, h.n7, am_cal_some, e2, bi_t, if_neg one_ne, if_neg e3, c_within', am_cal_some, e4, bi_f, if_pos rfl]) (by rw [eX9_link_50, m_isSide, h.n0, am_cal_some, e1, bi_t, if_neg one_ne, m_isSide, h.n0, am_cal_some, e2, bi_t, if_neg one_ne, if_neg e3, m_in' _ _ 0 500 (by decide) (by decide), am_cal_some, e4, bi_f, if_pos rfl])
  have h9 := h.n9
  by_cases e5 : f 37 4 < 0
  case neg =>
    refine OP.same h (r := -2) ?_ ?_
    · rw [eX8_link_1, c_isSide, h.n7, am_cal_some, e1, bi_t, if_neg one_ne, c_isSide, h.n7, am_cal_some, e2, bi_t, if_neg one_ne, if_neg e3, c_within', am_cal_some, e4, bi_t, if_neg one_ne, c_isGiven, am_cal_some, decide_eq_false e5, Bool.not_false, bi_t, if_neg one_ne]
    · rw [eX9_link_50, m_isSide, h.n0, am_cal_some, e1, bi_t, if_neg one_ne, m_isSide, h.n0, am_cal_some, e2, bi_t, if_neg one_ne, if_neg e3, m_in' _ _ 0 500 (by decide) (by decide), am_cal_some, e4, bi_t, if_neg one_ne, h.areGiven, am_cal_some, decide_eq_false e5, Bool.not_false, bi_t, if_neg one_ne]
  obtain ⟨a, ha, rfl⟩ := wi_side h.n9 e1
  obtain ⟨b, hb, rfl⟩ := wi_side h.n9 e2
  obtain ⟨w, -, hw, rfl⟩ := wi_nat (lo := 0) (hi := 500) (by omega) (by omega) e4
  have hab : a ≠ b := fun z => e3 (by rw [z])
  have hblk : Blk 37 f := by
    rcases h.gv with ⟨-, hb⟩ | ⟨z, -⟩
    · exact hb
    · exact absurd e5 z
  have ma : nI a * 9 + nI b = nI (9 * a + b) := by rw [idx9, Nat.mul_comm a 9]
  have mb : nI b * 9 + nI a = nI (9 * b + a) := by rw [idx9, Nat.mul_comm b 9]
  have hC : ∃ G, am_call 67 [.ref 1, .int (nI a), .int (nI b), .int (nI w)] f = some (f 7 (9 * a + b), G) ∧ (∀ q, q ∉ [2, 7, 22, 27] → G q = f q) ∧ G 7 = upd (upd (f 7) (9 * a + b) (nI w)) (9 * b + a) (nI w) ∧ (∀ j, j ≠ 8 → G 2 j = f 2 j) ∧ G 2 8 = 0 ∧ G 22 8 = -1 ∧ G 27 12 = -1 := by
    refine ⟨_, by rw [eX8_link_1, c_isSide, h.n7, am_cal_some, e1, bi_t, if_neg one_ne, c_isSide, h.n7, am_cal_some, e2, bi_t, if_neg one_ne, if_neg e3, c_within', am_cal_some, e4, bi_t, if_neg one_ne, c_isGiven, am_cal_some, decide_eq_true e5, Bool.not_true, bi_f, if_pos rfl, c_forget, am_cal_some, eX4_setLink_2, ma, mb, am_ald_in _ _ _ (show 9 * a + b < 81 by omega) (by decide), am_ast_in _ _ _ _ (show 9 * a + b < 81 by omega) (by decide), am_ast_in _ _ _ _ (show 9 * b + a < 81 by omega) (by decide), am_z0, am_cal_some, am_up_ne (show 7 ≠ 27 by decide), am_up_ne (show 7 ≠ 22 by decide)], fun q hq => ?_, ?_, fun j hj => ?_, ?_, ?_, ?_⟩
    · simp only [List.mem_cons, List.not_mem_nil, or_false, not_or] at hq
      rw [am_up_ne (by omega), am_up_ne (by omega), am_up_ne (by omega), am_up_ne (by omega), am_up_ne (by omega)]
    · rw [am_up_ne (by decide), am_up_eq, am_up_eq, am_up_ne (by decide), am_up_ne (by decide)]
    · rw [am_up_j hj, am_up_ne (by decide), am_up_ne (by decide), am_up_ne (by decide), am_up_ne (by decide)]
    · exact am_up_same _ _ _ _
    · rw [am_up_ne (by decide), am_up_ne (by decide), am_up_ne (by decide), am_up_ne (by decide), am_up_same]
    · rw [am_up_ne (by decide), am_up_ne (by decide), am_up_ne (by decide), am_up_same]
  obtain ⟨G, c1, c2, c3, c4, c5, c6, c7⟩ := hC
  have hgv := h.areG0 (g := G) e5 (by rw [c2 50 (by decide)]) (c2 60 (by decide))
  have g0 : G 50 0 = nI n := by rw [c2 50 (by decide)]; exact h.n0
  have hM : ∃ H, am_call 125 [.ref 50, .int (nI a), .int (nI b), .int (nI w)] G = some (f 7 (9 * a + b), H) ∧ (∀ q, q ≠ 55 → H q = G q) ∧ H 55 = upd (upd (f 7) (9 * a + b) (nI w)) (9 * b + a) (nI w) := by
    refine ⟨_, by rw [eX9_link_50, m_isSide, g0, am_cal_some, e1, bi_t, if_neg one_ne, m_isSide, g0, am_cal_some, e2, bi_t, if_neg one_ne, if_neg e3, m_in' _ _ 0 500 (by decide) (by decide), am_cal_some, e4, bi_t, if_neg one_ne, hgv, am_cal_some, if_pos rfl, idx9', idx9', am_ald_in _ _ _ (show 9 * a + b < 81 by omega) (by decide), am_ast_in _ _ _ _ (show 9 * a + b < 81 by omega) (by decide), am_ast_in _ _ _ _ (show 9 * b + a < 81 by omega) (by decide), c2 55 (by decide), h.1.2.1.2.2.2.2.2], fun q hq => ?_, ?_⟩
    · rw [am_up_ne hq, am_up_ne hq]
    · rw [am_up_eq, am_up_eq, c2 55 (by decide), h.1.2.1.2.2.2.2.2]
  obtain ⟨H, d1, d2, d3⟩ := hM
  have dc : ∀ q, q ∉ [2, 7, 22, 27, 55] → H q = f q := fun q hq => by
    simp only [List.mem_cons, List.not_mem_nil, or_false, not_or] at hq
    rw [d2 q (by omega), c2 q (by simp only [List.mem_cons, List.not_mem_nil, or_false]; omega)]
  refine OP.act c1 d1 ⟨c2 0 (by decide), c2 77 (by decide)⟩ ⟨d2 0 (by decide), d2 77 (by decide)⟩ ⟨n, updN (updN lk (9 * a + b) w) (9 * b + a) w, ln, c, mr, t, kc, ⟨⟨?_, h9, ?_, updN_le (updN_le h.lb hw) hw, ?_, h.nb⟩, ⟨by rw [dc 50 (by decide)]; exact h.n0, ?_, ?_, ?_, ?_, ?_⟩, ?_, ?_⟩, h.2.1.keep (by rw [dc 16 (by decide)]) (by rw [dc 57 (by decide)]) (dc 17 (by decide)) (dc 18 (by decide)) (dc 19 (by decide)) (fun j _ => by rw [dc 58 (by decide)]), h.2.2.1.keep (by rw [dc 10 (by decide)]) (by rw [dc 50 (by decide)]) (dc 11 (by decide)) (dc 56 (by decide)), h.M.keep (dc 21 (by decide)) (dc 59 (by decide)), h.K.blank hblk (by rw [dc 1 (by decide)]) (by rw [dc 50 (by decide)]) (fun q hq => dc q (fun z => ?_)), IC.none (by rw [d2 2 (by decide)]; exact c5) (by rw [dc 24 (by decide)]; exact h.C.2.1) (by rw [dc 36 (by decide)]; exact h.C.2.2.1) (by rw [d2 22 (by decide)]; exact c6) (by rw [d2 27 (by decide)]; exact c7)⟩
  · rw [d2 2 (by decide), c4 7 (by decide)]; exact h.n7
  · rw [d2 7 (by decide), c3]; exact updN_I (updN_I h.1.1.2.2.1 _ _) _ _
  · rw [dc 5 (by decide)]; exact h.1.1.2.2.2.2.1
  · rw [dc 51 (by decide), dc 3 (by decide)]; exact h.1.2.1.2.1
  · rw [dc 52 (by decide), dc 4 (by decide)]; exact h.1.2.1.2.2.1
  · rw [dc 53 (by decide), dc 5 (by decide)]; exact h.1.2.1.2.2.2.1
  · rw [dc 54 (by decide), dc 6 (by decide)]; exact h.1.2.1.2.2.2.2.1
  · rw [d3, d2 7 (by decide), c3]
  · intro x y hx hy
    unfold updN
    by_cases p1 : 9 * x + y = 9 * b + a
    · rw [if_pos p1, if_neg (show ¬ 9 * y + x = 9 * b + a by omega), if_pos (show 9 * y + x = 9 * a + b by omega)]
    · rw [if_neg p1]
      by_cases p2 : 9 * x + y = 9 * a + b
      · rw [if_pos p2, if_pos (show 9 * y + x = 9 * b + a by omega)]
      · rw [if_neg p2, if_neg (show ¬ 9 * y + x = 9 * b + a by omega), if_neg (show ¬ 9 * y + x = 9 * a + b by omega)]
        exact h.1.2.2.1 x y hx hy
  · intro s
    rw [dc 3 (by decide), dc 4 (by decide), dc 6 (by decide)]
    exact h.1.2.2.2 s
  · simp only [List.mem_cons, List.not_mem_nil, or_false] at z hq
    omega
theorem sm6 (p : Nat → Nat) (a : Nat) : smN (fun k => p (6 * a + k)) 6 = p (6 * a) + p (6 * a + 1) + p (6 * a + 2) + p (6 * a + 3) + p (6 * a + 4) + p (6 * a + 5) := by
  simp [smN]
theorem sm6_upd (p : Nat → Nat) {a b y : Nat} (hb : b < 6) : smN (fun k => updN p (6 * a + b) y (6 * a + k)) 6 + p (6 * a + b) = smN (fun k => p (6 * a + k)) 6 + y := by
  rw [sm6, sm6]
  unfold updN
  have : b = 0 ∨ b = 1 ∨ b = 2 ∨ b = 3 ∨ b = 4 ∨ b = 5 := by omega
  rcases this with rfl | rfl | rfl | rfl | rfl | rfl <;> simp <;> omega
theorem sm6_same (p : Nat → Nat) {a b x y : Nat} (hb : b < 6) (hx : x ≠ a) : smN (fun k => updN p (6 * a + b) y (6 * x + k)) 6 = smN (fun k => p (6 * x + k)) 6 := by
  refine smN_congr fun k hk => ?_
  unfold updN
  rw [if_neg (by omega)]
theorem op_misread (h : Iv n lk ln c mr t kc f) (a1 a2 a3 : Int32) : OP 80 153 [.int a1, .int a2, .int a3] f := by
  by_cases e1 : wi a1 0 5 = true
  case neg =>
    have e1 : wi a1 0 5 = false := by simpa using e1
    exact OP.same h (r := -1) (by rw [eX8_misread_1, c_isLetter, am_cal_some, e1, bi_f, if_pos rfl]) (by rw [eX9_misread_50, m_in' _ _ 0 5 (by decide) (by decide), am_cal_some, e1, bi_f, if_pos rfl])
  by_cases e2 : wi a2 0 5 = true
  case neg =>
    have e2 : wi a2 0 5 = false := by simpa using e2
    exact OP.same h (r := -1) (by rw [eX8_misread_1, c_isLetter, am_cal_some, e1, bi_t, if_neg one_ne, c_isLetter, am_cal_some, e2, bi_f, if_pos rfl]) (by rw [eX9_misread_50, m_in' _ _ 0 5 (by decide) (by decide), am_cal_some, e1, bi_t, if_neg one_ne, m_in' _ _ 0 5 (by decide) (by decide), am_cal_some, e2, bi_f, if_pos rfl])
  by_cases e3 : a1 = a2
  case pos =>
    exact OP.same h (r := -1) (by rw [eX8_misread_1, c_isLetter, am_cal_some, e1, bi_t, if_neg one_ne, c_isLetter, am_cal_some, e2, bi_t, if_neg one_ne, if_pos e3]) (by rw [eX9_misread_50, m_in' _ _ 0 5 (by decide) (by decide), am_cal_some, e1, bi_t, if_neg one_ne, m_in' _ _ 0 5 (by decide) (by decide), am_cal_some, e2, bi_t, if_neg one_ne, if_pos e3])
  by_cases e4 : wi a3 0 99 = true
  case neg =>
    have e4 : wi a3 0 99 = false := by simpa using e4
    exact OP.same h (r := -1) (by rw [eX8_misread_1, c_isLetter, am_cal_some, e1, bi_t, if_neg one_ne, c_isLetter, am_cal_some, e2, bi_t, if_neg one_ne, if_neg e3, c_within', am_cal_some, e4, bi_f, if_pos rfl]) (by rw [eX9_misread_50, m_in' _ _ 0 5 (by decide) (by decide), am_cal_some, e1, bi_t, if_neg one_ne, m_in' _ _ 0 5 (by decide) (by decide), am_cal_some, e2, bi_t, if_neg one_ne, if_neg e3, m_in' _ _ 0 99 (by decide) (by decide), am_cal_some, e4, bi_f, if_pos rfl])
  obtain ⟨a, -, ha, rfl⟩ := wi_nat (lo := 0) (hi := 5) (by omega) (by omega) e1
  obtain ⟨b, -, hb, rfl⟩ := wi_nat (lo := 0) (hi := 5) (by omega) (by omega) e2
  obtain ⟨y, -, hy, rfl⟩ := wi_nat (lo := 0) (hi := 99) (by omega) (by omega) e4
  have hM1 := h.M.2.1
  have hM2 := h.M.2.2
  have hms : msum (f 21) a = nI (smN (fun k => mr (6 * a + k)) 6) := by
    unfold msum
    rw [← sm_nI]
    exact sm_congr fun k hk => hM1 _ (by omega)
  have hM := hM2 a (by omega)
  have hx := smN_le (g := fun k => mr (6 * a + k)) (n := 6) (k := b) (by omega)
  have hx : mr (6 * a + b) ≤ smN (fun k => mr (6 * a + k)) 6 := hx
  have h21 : f 21 (6 * a + b) = nI (mr (6 * a + b)) := hM1 _ (by omega)
  generalize hS : smN (fun k => mr (6 * a + k)) 6 = S at hms hM hx
  have s1 : (100 : Int32) - nI S = nI (100 - S) := pk_sub (a := 100) hM
  have s2 : nI S - nI (mr (6 * a + b)) = nI (S - mr (6 * a + b)) := pk_sub hx
  by_cases e5 : 100 - S + mr (6 * a + b) < y
  · refine OP.same h (r := -2) ?_ ?_
    · rw [eX8_misread_1, c_isLetter, am_cal_some, e1, bi_t, if_neg one_ne, c_isLetter, am_cal_some, e2, bi_t, if_neg one_ne, if_neg e3, c_within', am_cal_some, e4, bi_t, if_neg one_ne, eX1_hasRoom_20, c_leftOf (by omega), am_cal_some, idx6, am_ald_in _ _ _ (show 6 * a + b < 36 by omega) (by decide), hms, h21, s1, nI_add, if_pos (nI_lt e5 (by omega)), am_z0, am_cal_some, if_pos rfl]
    · rw [eX9_misread_50, m_in' _ _ 0 5 (by decide) (by decide), am_cal_some, e1, bi_t, if_neg one_ne, m_in' _ _ 0 5 (by decide) (by decide), am_cal_some, e2, bi_t, if_neg one_ne, if_neg e3, m_in' _ _ 0 99 (by decide) (by decide), am_cal_some, e4, bi_t, if_neg one_ne, m_missed (by omega), h.M.1, am_cal_some, idx6', am_ald_in _ _ _ (show 6 * a + b < 36 by omega) (by decide), hms, h.M.1, h21, s2, nI_add, if_pos (show (100 : Int32) < nI (S - mr (6 * a + b) + y) from nI_lt (a := 100) (by omega) (by omega))]
  have hC : am_call 80 [.ref 1, .int (nI a), .int (nI b), .int (nI y)] f = some (f 21 (6 * a + b), am_up (am_up f 27 12 (-1)) 21 (6 * a + b) (nI y)) := by
    rw [eX8_misread_1, c_isLetter, am_cal_some, e1, bi_t, if_neg one_ne, c_isLetter, am_cal_some, e2, bi_t, if_neg one_ne, if_neg e3, c_within', am_cal_some, e4, bi_t, if_neg one_ne, eX1_hasRoom_20, c_leftOf (by omega), am_cal_some, idx6, am_ald_in _ _ _ (show 6 * a + b < 36 by omega) (by decide), hms, h21, s1, nI_add, if_neg (nI_nlt (by omega) (by omega)), am_z1, am_cal_some, if_neg one_ne, eX7_forget_27, am_cal_some, eX1_set_20, idx6, am_ald_in _ _ _ (show 6 * a + b < 36 by omega) (by decide), am_ast_in _ _ _ _ (show 6 * a + b < 36 by omega) (by decide), am_cal_some, am_up_ne (show 21 ≠ 27 by decide), h21]
  have c2 : ∀ q, q ≠ 21 → q ≠ 27 → am_up (am_up f 27 12 (-1)) 21 (6 * a + b) (nI y) q = f q := fun q p r => by rw [am_up_ne p, am_up_ne r]
  have c21 : am_up (am_up f 27 12 (-1)) 21 (6 * a + b) (nI y) 21 = upd (f 21) (6 * a + b) (nI y) := by rw [am_up_eq, am_up_ne (by decide)]
  have c27 : am_up (am_up f 27 12 (-1)) 21 (6 * a + b) (nI y) 27 12 = -1 := by rw [am_up_ne (by decide), am_up_same]
  generalize am_up (am_up f 27 12 (-1)) 21 (6 * a + b) (nI y) = G at hC c2 c21 c27
  have h59 : G 59 = f 21 := by rw [c2 59 (by decide) (by decide)]; exact h.M.1
  have hD : am_call 153 [.ref 50, .int (nI a), .int (nI b), .int (nI y)] G = some (f 21 (6 * a + b), am_up G 59 (6 * a + b) (nI y)) := by
    rw [eX9_misread_50, m_in' _ _ 0 5 (by decide) (by decide), am_cal_some, e1, bi_t, if_neg one_ne, m_in' _ _ 0 5 (by decide) (by decide), am_cal_some, e2, bi_t, if_neg one_ne, if_neg e3, m_in' _ _ 0 99 (by decide) (by decide), am_cal_some, e4, bi_t, if_neg one_ne, m_missed (by omega), h59, am_cal_some, idx6', am_ald_in _ _ _ (show 6 * a + b < 36 by omega) (by decide), hms, h59, h21, s2, nI_add, if_neg (show ¬ (100 : Int32) < nI (S - mr (6 * a + b) + y) from nI_nlt (a := 100) (by omega) (by omega)), am_ald_in _ _ _ (show 6 * a + b < 36 by omega) (by decide), am_ast_in _ _ _ _ (show 6 * a + b < 36 by omega) (by decide), h59, h21]
  have d2 : ∀ q, q ∉ [21, 27, 59] → am_up G 59 (6 * a + b) (nI y) q = f q := fun q hq => by
    simp only [List.mem_cons, List.not_mem_nil, or_false, not_or] at hq
    rw [am_up_ne (by omega), c2 q (by omega) (by omega)]
  refine OP.act hC hD ⟨c2 0 (by decide) (by decide), c2 77 (by decide) (by decide)⟩ ⟨am_up_ne (by decide), am_up_ne (by decide)⟩ ⟨n, lk, ln, c, updN mr (6 * a + b) y, t, kc, h.1.keep (by rw [d2 2 (by decide)]) (fun q hq => d2 q (fun z => ?_)) (by rw [d2 50 (by decide)]), h.2.1.keep (by rw [d2 16 (by decide)]) (by rw [d2 57 (by decide)]) (d2 17 (by decide)) (d2 18 (by decide)) (d2 19 (by decide)) (fun j _ => by rw [d2 58 (by decide)]), h.2.2.1.keep (by rw [d2 10 (by decide)]) (by rw [d2 50 (by decide)]) (d2 11 (by decide)) (d2 56 (by decide)), ⟨?_, ?_, ?_⟩, h.K.keep (by rw [d2 1 (by decide)]) (by rw [d2 50 (by decide)]) (fun q hq => d2 q (fun z => ?_)), h.C.1.keep (by rw [d2 2 (by decide)]) (d2 8 (by decide)) (d2 9 (by decide)), by rw [d2 24 (by decide)]; exact h.C.2.1, by rw [d2 36 (by decide)]; exact h.C.2.2.1, fun d hd e => ?_, fun d l hd _ _ e _ => ?_⟩
  · simp only [List.mem_cons, List.not_mem_nil, or_false] at z hq
    omega
  · rw [am_up_eq, h59, am_up_ne (by decide), c21]
  · intro i hi
    rw [am_up_ne (by decide), c21]
    unfold upd updN
    by_cases e : i = 6 * a + b
    · rw [if_pos e, if_pos e]
    · rw [if_neg e, if_neg e]; exact hM1 i hi
  · intro x hx6
    by_cases e : x = a
    · subst e
      have := sm6_upd mr (a := x) (b := b) (y := y) (by omega)
      rw [hS] at this
      omega
    · rw [sm6_same mr (by omega) e]
      exact hM2 x hx6
  · simp only [List.mem_cons, List.not_mem_nil, or_false] at z hq
    omega
  · rw [d2 22 (by decide)] at e
    rw [d2 3 (by decide), d2 4 (by decide), d2 17 (by decide), d2 18 (by decide), d2 19 (by decide)]
    exact (h.C.2.2.2.1 d hd e).keep (d2 23 (by decide)) (by rw [d2 22 (by decide)]) (by rw [d2 22 (by decide)]) (d2 26 (by decide))
  · rw [am_up_ne (by decide)] at e
    exact absurd (c27.symm.trans e) (m1_ne (by omega))
theorem op_wipe (h : Iv n lk ln c mr t kc f) : OP 74 134 [] f := by
  have c2 : ∀ q, q ≠ 10 → q ≠ 50 → am_up (am_up f 10 1 0) 50 6 0 q = f q := fun q p r => by rw [am_up_ne r, am_up_ne p]
  have c50 : ∀ j, j ≠ 6 → am_up (am_up f 10 1 0) 50 6 0 50 j = f 50 j := fun j hj => by rw [am_up_j hj, am_up_ne (by decide)]
  refine OP.act (r := nI t) (g := am_up f 10 1 0) (h := am_up (am_up f 10 1 0) 50 6 0) ?_ ?_ ⟨am_up_ne (by decide), am_up_ne (by decide)⟩ ⟨am_up_ne (by decide), am_up_ne (by decide)⟩ ⟨n, lk, ln, c, mr, 0, kc, h.1.keep (by rw [c2 2 (by decide) (by decide)]) (fun q hq => c2 q ?_ ?_) (c50 0 (by decide)), h.2.1.keep (by rw [c2 16 (by decide) (by decide)]) (by rw [c2 57 (by decide) (by decide)]) (c2 17 (by decide) (by decide)) (c2 18 (by decide) (by decide)) (c2 19 (by decide) (by decide)) (fun j _ => by rw [c2 58 (by decide) (by decide)]), ⟨by rw [am_up_ne (by decide), am_up_same]; rfl, by omega, by rw [am_up_same]; rfl, fun j hj => absurd hj (Nat.not_lt_zero _)⟩, h.M.keep (c2 21 (by decide) (by decide)) (c2 59 (by decide) (by decide)), h.K.keep (by rw [c2 1 (by decide) (by decide)]) (c50 16 (by decide)) (fun q hq => c2 q ?_ ?_), h.C.keep (by rw [c2 2 (by decide) (by decide)]) (fun q hq => c2 q ?_ ?_)⟩
  · show am_call 74 [.ref 1] f = _
    rw [eX8_wipe_1, h.2.2.1.1]
  · show am_call 134 [.ref 50] _ = _
    rw [eX9_wipe_50, am_up_ne (by decide), h.2.2.1.2.2.1]
  all_goals
    simp only [List.mem_cons, List.not_mem_nil, or_false] at hq
    omega
end Ops8

