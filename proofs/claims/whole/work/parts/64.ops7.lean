section Ops7
variable {n : Nat} {lk ln : Nat → Nat} {c : Nat} {mr : Nat → Nat} {t kc : Nat} {f g : Hp}
theorem wi_n {a : Int32} {lo hi : Nat} {lo' hi' : Int32} (h1 : lo' = nI lo) (h2 : hi' = nI hi) (hlo : lo < 2 ^ 31) (hhi : hi < 2 ^ 31) (h : wi a lo' hi' = true) : ∃ s, lo ≤ s ∧ s ≤ hi ∧ a = nI s := by
  subst h1 h2
  exact wi_nat hlo hhi h
/-- one number changed -/
def updN (f : Nat → Nat) (k x : Nat) : Nat → Nat := fun j => if j = k then x else f j
theorem updN_I {g : Nat → Int32} {p : Nat → Nat} (h : ∀ i, g i = nI (p i)) (k x : Nat) : ∀ i, upd g k (nI x) i = nI (updN p k x i) := by
  intro i
  unfold upd updN
  by_cases e : i = k
  · rw [if_pos e, if_pos e]
  · rw [if_neg e, if_neg e]; exact h i
theorem updN_le {p : Nat → Nat} {k x B : Nat} (h : ∀ i, p i ≤ B) (hx : x ≤ B) : ∀ i, updN p k x i ≤ B := by
  intro i
  unfold updN
  by_cases e : i = k
  · rw [if_pos e]; exact hx
  · rw [if_neg e]; exact h i
theorem c_forget (f : Hp) : am_call 115 [.ref 1] f = some (0, am_up (am_up f 22 8 (-1)) 27 12 (-1)) := by
  rw [eX8_forgetShaped_1, eX3_forget_22, am_cal_some, eX7_forget_27, am_cal_some]
theorem m1_ne {d : Nat} (hd : d < 2 ^ 31) : ¬ (-1 : Int32) = nI d := fun z => nI_m1 hd z.symm
/-- nothing is kept to be used again -/
theorem IC.none (hw : g 2 8 = 0) (h24 : g 24 0 = 0) (h36 : g 36 0 = 0) (hs : g 22 8 = -1) (hf : g 27 12 = -1) : IC n lk ln c mr g :=
  ⟨Or.inl hw, h24, h36, fun d hd e => absurd (hs.symm.trans e) (m1_ne (by omega)), fun d l hd _ _ e _ => absurd (hf.symm.trans e) (m1_ne (by omega))⟩
/-- blank towns suit all streets -/
theorem IK.blank {n' : Nat} {lk' ln' : Nat → Nat} (h : IK n lk ln kc f) (hb : Blk 37 f) (h1 : g 1 10 = f 1 10) (h2 : g 50 16 = f 50 16) (hc : ∀ q, q ∈ [37, 38, 39, 40, 42, 43, 44, 45, 46, 47, 48, 49, 60, 61, 62, 63, 64] → g q = f q) : IK n' lk' ln' kc g := by
  have h' := h.keep h1 h2 hc
  have hb' : Blk 37 g := by
    unfold Blk at hb ⊢
    simp only [Nat.reduceAdd] at hb ⊢
    rw [hc 37 (by decide), hc 38 (by decide)]
    exact hb
  obtain ⟨a1, a2, a3, a4, a5, a6, a7⟩ := h'
  exact ⟨a1, ⟨a2.1, Or.inl hb'⟩, fun k => ⟨(a3 k).1, Or.inl (a5 k hb')⟩, fun k => ⟨(a4 k).1, Or.inl (a6 k hb')⟩, a5, a6, a7⟩
/-- a call that acts -/
theorem OP.act {a b : Nat} {A : List Value} {r : Int32} {h : Hp} (h1 : am_call a (.ref 1 :: A) f = some (r, g)) (h2 : am_call b (.ref 50 :: A) g = some (r, h)) (hg : g 0 = f 0 ∧ g 77 = f 77) (hh : h 0 = g 0 ∧ h 77 = g 77) (hi : Inv h) : OP a b A f := ⟨r, g, h, h1, h2, hg.1, hg.2, hh.1.trans hg.1, hh.2.trans hg.2, hi⟩
theorem op_side (h : Iv n lk ln c mr t kc f) (a1 a2 a3 a4 : Int32) : OP 66 124 [.int a1, .int a2, .int a3, .int a4] f := by
  by_cases e1 : wi a1 1 200 = true
  case neg =>
    have e1 : wi a1 1 200 = false := by simpa using e1
    exact OP.same h (r := -1) (by rw [eX8_side_1, c_within', am_cal_some, e1, bi_f, if_pos rfl]) (by rw [eX9_side_50, m_in' _ _ 1 200 (by decide) (by decide), am_cal_some, e1, bi_f, if_pos rfl])
  by_cases e2 : wi a2 0 20 = true
  case neg =>
    have e2 : wi a2 0 20 = false := by simpa using e2
    exact OP.same h (r := -1) (by rw [eX8_side_1, c_within', am_cal_some, e1, bi_t, if_neg one_ne, c_within', am_cal_some, e2, bi_f, if_pos rfl]) (by rw [eX9_side_50, m_in' _ _ 1 200 (by decide) (by decide), am_cal_some, e1, bi_t, if_neg one_ne, m_in' _ _ 0 20 (by decide) (by decide), am_cal_some, e2, bi_f, if_pos rfl])
  by_cases e3 : wi a3 1 500 = true
  case neg =>
    have e3 : wi a3 1 500 = false := by simpa using e3
    exact OP.same h (r := -1) (by rw [eX8_side_1, c_within', am_cal_some, e1, bi_t, if_neg one_ne, c_within', am_cal_some, e2, bi_t, if_neg one_ne, c_within', am_cal_some, e3, bi_f, if_pos rfl]) (by rw [eX9_side_50, m_in' _ _ 1 200 (by decide) (by decide), am_cal_some, e1, bi_t, if_neg one_ne, m_in' _ _ 0 20 (by decide) (by decide), am_cal_some, e2, bi_t, if_neg one_ne, m_in' _ _ 1 500 (by decide) (by decide), am_cal_some, e3, bi_f, if_pos rfl])
  by_cases e4 : wi a4 1 50 = true
  case neg =>
    have e4 : wi a4 1 50 = false := by simpa using e4
    exact OP.same h (r := -1) (by rw [eX8_side_1, c_within', am_cal_some, e1, bi_t, if_neg one_ne, c_within', am_cal_some, e2, bi_t, if_neg one_ne, c_within', am_cal_some, e3, bi_t, if_neg one_ne, c_within', am_cal_some, e4, bi_f, if_pos rfl]) (by rw [eX9_side_50, m_in' _ _ 1 200 (by decide) (by decide), am_cal_some, e1, bi_t, if_neg one_ne, m_in' _ _ 0 20 (by decide) (by decide), am_cal_some, e2, bi_t, if_neg one_ne, m_in' _ _ 1 500 (by decide) (by decide), am_cal_some, e3, bi_t, if_neg one_ne, m_in' _ _ 1 50 (by decide) (by decide), am_cal_some, e4, bi_f, if_pos rfl])
  have h9 := h.n9
  by_cases e5 : f 37 4 < 0
  case neg =>
    refine OP.same h (r := -2) ?_ ?_
    · rw [eX8_side_1, c_within', am_cal_some, e1, bi_t, if_neg one_ne, c_within', am_cal_some, e2, bi_t, if_neg one_ne, c_within', am_cal_some, e3, bi_t, if_neg one_ne, c_within', am_cal_some, e4, bi_t, if_neg one_ne, c_isGiven, am_cal_some, decide_eq_false e5, Bool.not_false, bi_t, if_neg one_ne]
    · rw [eX9_side_50, m_in' _ _ 1 200 (by decide) (by decide), am_cal_some, e1, bi_t, if_neg one_ne, m_in' _ _ 0 20 (by decide) (by decide), am_cal_some, e2, bi_t, if_neg one_ne, m_in' _ _ 1 500 (by decide) (by decide), am_cal_some, e3, bi_t, if_neg one_ne, m_in' _ _ 1 50 (by decide) (by decide), am_cal_some, e4, bi_t, if_neg one_ne, h.areGiven, am_cal_some, decide_eq_false e5, Bool.not_false, bi_t, if_neg one_ne]
  by_cases e6 : n = 9
  · refine OP.same h (r := -3) ?_ ?_
    · rw [eX8_side_1, c_within', am_cal_some, e1, bi_t, if_neg one_ne, c_within', am_cal_some, e2, bi_t, if_neg one_ne, c_within', am_cal_some, e3, bi_t, if_neg one_ne, c_within', am_cal_some, e4, bi_t, if_neg one_ne, c_isGiven, am_cal_some, decide_eq_true e5, Bool.not_true, bi_f, if_pos rfl, h.n7, if_neg (show ¬ nI n < (9 : Int32) from nI_nlt (b := 9) (by omega) (by omega))]
    · rw [eX9_side_50, m_in' _ _ 1 200 (by decide) (by decide), am_cal_some, e1, bi_t, if_neg one_ne, m_in' _ _ 0 20 (by decide) (by decide), am_cal_some, e2, bi_t, if_neg one_ne, m_in' _ _ 1 500 (by decide) (by decide), am_cal_some, e3, bi_t, if_neg one_ne, m_in' _ _ 1 50 (by decide) (by decide), am_cal_some, e4, bi_t, if_neg one_ne, h.areGiven, am_cal_some, decide_eq_true e5, Bool.not_true, bi_f, if_pos rfl, h.n0, if_pos (show nI n = (9 : Int32) by rw [e6]; rfl)]
  have hn : n < 9 := by omega
  obtain ⟨x1, -, x1b, rfl⟩ := wi_nat (lo := 1) (hi := 200) (by omega) (by omega) e1
  obtain ⟨x2, -, x2b, rfl⟩ := wi_nat (lo := 0) (hi := 20) (by omega) (by omega) e2
  obtain ⟨x3, -, x3b, rfl⟩ := wi_nat (lo := 1) (hi := 500) (by omega) (by omega) e3
  obtain ⟨x4, -, x4b, rfl⟩ := wi_nat (lo := 1) (hi := 50) (by omega) (by omega) e4
  have hblk : Blk 37 f := by
    rcases h.gv with ⟨-, hb⟩ | ⟨z, -⟩
    · exact hb
    · exact absurd e5 z
  -- the class
  have hC : ∃ G, am_call 66 [.ref 1, .int (nI x1), .int (nI x2), .int (nI x3), .int (nI x4)] f = some (nI n, G) ∧ (∀ q, q ∉ [2, 3, 4, 5, 6, 22, 27] → G q = f q) ∧ G 3 = upd (f 3) n (nI x1) ∧ G 4 = upd (f 4) n (nI x2) ∧ G 5 = upd (f 5) n (nI x3) ∧ G 6 = upd (f 6) n (nI x4) ∧ G 2 7 = nI (n + 1) ∧ G 2 8 = 0 ∧ G 22 8 = -1 ∧ G 27 12 = -1 := by
    refine ⟨_, by rw [eX8_side_1, c_within', am_cal_some, e1, bi_t, if_neg one_ne, c_within', am_cal_some, e2, bi_t, if_neg one_ne, c_within', am_cal_some, e3, bi_t, if_neg one_ne, c_within', am_cal_some, e4, bi_t, if_neg one_ne, c_isGiven, am_cal_some, decide_eq_true e5, Bool.not_true, bi_f, if_pos rfl, h.n7, if_pos (show nI n < (9 : Int32) from nI_lt (b := 9) (by omega) (by decide)), c_forget, am_cal_some, eX4_add_2, am_up_ne (show 2 ≠ 27 by decide), am_up_ne (show 2 ≠ 22 by decide), h.n7, if_pos (show nI n < (9 : Int32) from nI_lt (b := 9) (by omega) (by decide)), am_ast_in _ _ _ _ hn (by decide), am_up_ne (show 2 ≠ 3 by decide), am_up_ne (show 2 ≠ 27 by decide), am_up_ne (show 2 ≠ 22 by decide), h.n7, am_ast_in _ _ _ _ hn (by decide), am_up_ne (show 2 ≠ 4 by decide), am_up_ne (show 2 ≠ 3 by decide), am_up_ne (show 2 ≠ 27 by decide), am_up_ne (show 2 ≠ 22 by decide), h.n7, am_ast_in _ _ _ _ hn (by decide), am_up_ne (show 2 ≠ 5 by decide), am_up_ne (show 2 ≠ 4 by decide), am_up_ne (show 2 ≠ 3 by decide), am_up_ne (show 2 ≠ 27 by decide), am_up_ne (show 2 ≠ 22 by decide), h.n7, am_ast_in _ _ _ _ hn (by decide), am_z0, am_cal_some, am_up_same, am_up_j (show 7 ≠ 8 by decide), am_up_ne (show 2 ≠ 6 by decide), am_up_ne (show 2 ≠ 5 by decide), am_up_ne (show 2 ≠ 4 by decide), am_up_ne (show 2 ≠ 3 by decide), am_up_ne (show 2 ≠ 27 by decide), am_up_ne (show 2 ≠ 22 by decide), h.n7, nI_1, nI_pred], fun q hq => ?_, ?_, ?_, ?_, ?_, ?_, ?_, ?_, ?_⟩
    · simp only [List.mem_cons, List.not_mem_nil, or_false, not_or] at hq
      rw [am_up_ne (by omega), am_up_ne (by omega), am_up_ne (by omega), am_up_ne (by omega), am_up_ne (by omega), am_up_ne (by omega), am_up_ne (by omega), am_up_ne (by omega)]
    · rw [am_up_ne (by decide), am_up_ne (by decide), am_up_ne (by decide), am_up_ne (by decide), am_up_ne (by decide), am_up_eq, am_up_ne (by decide), am_up_ne (by decide)]
    · rw [am_up_ne (by decide), am_up_ne (by decide), am_up_ne (by decide), am_up_ne (by decide), am_up_eq, am_up_ne (by decide), am_up_ne (by decide), am_up_ne (by decide)]
    · rw [am_up_ne (by decide), am_up_ne (by decide), am_up_ne (by decide), am_up_eq, am_up_ne (by decide), am_up_ne (by decide), am_up_ne (by decide), am_up_ne (by decide)]
    · rw [am_up_ne (by decide), am_up_ne (by decide), am_up_eq, am_up_ne (by decide), am_up_ne (by decide), am_up_ne (by decide), am_up_ne (by decide), am_up_ne (by decide)]
    · exact am_up_same _ _ _ _
    · rw [am_up_j (by decide), am_up_same]
    · rw [am_up_ne (by decide), am_up_ne (by decide), am_up_ne (by decide), am_up_ne (by decide), am_up_ne (by decide), am_up_ne (by decide), am_up_ne (by decide), am_up_same]
    · rw [am_up_ne (by decide), am_up_ne (by decide), am_up_ne (by decide), am_up_ne (by decide), am_up_ne (by decide), am_up_ne (by decide), am_up_same]
  obtain ⟨G, c1, c2, c3, c4, c5, c6, c7, c8, c9, c10⟩ := hC
  -- areGiven of the reference still says no
  have hgv : am_call 123 [.ref 50] G = some (0, G) := by
    have key : am_run 123 4 [.ref 50, .int 0, .int 0] [] G = _ := m_areG (f := G) (n := n) n 0 false (by omega) h9 (by rw [c2 50 (by decide)]; exact h.n0)
    have hfa := h.areGiven
    rw [eX9_areGiven_50] at hfa
    have keyf : am_run 123 4 [.ref 50, .int 0, .int 0] [] f = _ := m_areG (f := f) (n := n) n 0 false (by omega) h9 h.n0
    rw [keyf, decide_eq_true e5] at hfa
    have e := (Prod.mk.inj (Option.some.inj hfa)).1
    rw [eX9_areGiven_50, key, c2 60 (by decide), e]; rfl
  have hM : ∃ H, am_call 124 [.ref 50, .int (nI x1), .int (nI x2), .int (nI x3), .int (nI x4)] G = some (nI n, H) ∧ (∀ q, q ∉ [50, 51, 52, 53, 54] → H q = G q) ∧ H 51 = upd (G 51) n (nI x1) ∧ H 52 = upd (G 52) n (nI x2) ∧ H 53 = upd (G 53) n (nI x3) ∧ H 54 = upd (G 54) n (nI x4) ∧ H 50 0 = nI (n + 1) ∧ ∀ j, j ≠ 0 → H 50 j = G 50 j := by
    have g0 : G 50 0 = nI n := by rw [c2 50 (by decide)]; exact h.n0
    refine ⟨_, by rw [eX9_side_50, m_in' _ _ 1 200 (by decide) (by decide), am_cal_some, e1, bi_t, if_neg one_ne, m_in' _ _ 0 20 (by decide) (by decide), am_cal_some, e2, bi_t, if_neg one_ne, m_in' _ _ 1 500 (by decide) (by decide), am_cal_some, e3, bi_t, if_neg one_ne, m_in' _ _ 1 50 (by decide) (by decide), am_cal_some, e4, bi_t, if_neg one_ne, hgv, am_cal_some, if_pos rfl, g0, if_neg (show ¬ nI n = (9 : Int32) from fun z => e6 ((nI_eq (b := 9) (by omega) (by decide)).mp z)), am_ast_in _ _ _ _ hn (by decide), am_up_ne (show 50 ≠ 51 by decide), g0, am_ast_in _ _ _ _ hn (by decide), am_up_ne (show 50 ≠ 52 by decide), am_up_ne (show 50 ≠ 51 by decide), g0, am_ast_in _ _ _ _ hn (by decide), am_up_ne (show 50 ≠ 53 by decide), am_up_ne (show 50 ≠ 52 by decide), am_up_ne (show 50 ≠ 51 by decide), g0, am_ast_in _ _ _ _ hn (by decide), am_up_same, am_up_ne (show 50 ≠ 54 by decide), am_up_ne (show 50 ≠ 53 by decide), am_up_ne (show 50 ≠ 52 by decide), am_up_ne (show 50 ≠ 51 by decide), g0, nI_1, nI_pred], fun q hq => ?_, ?_, ?_, ?_, ?_, ?_, fun j hj => ?_⟩
    · simp only [List.mem_cons, List.not_mem_nil, or_false, not_or] at hq
      rw [am_up_ne (by omega), am_up_ne (by omega), am_up_ne (by omega), am_up_ne (by omega), am_up_ne (by omega)]
    · rw [am_up_ne (by decide), am_up_ne (by decide), am_up_ne (by decide), am_up_ne (by decide), am_up_eq]
    · rw [am_up_ne (by decide), am_up_ne (by decide), am_up_ne (by decide), am_up_eq, am_up_ne (by decide)]
    · rw [am_up_ne (by decide), am_up_ne (by decide), am_up_eq, am_up_ne (by decide), am_up_ne (by decide)]
    · rw [am_up_ne (by decide), am_up_eq, am_up_ne (by decide), am_up_ne (by decide), am_up_ne (by decide)]
    · exact am_up_same _ _ _ _
    · rw [am_up_j hj, am_up_ne (by decide), am_up_ne (by decide), am_up_ne (by decide), am_up_ne (by decide)]
  obtain ⟨H, d1, d2, d3, d4, d5, d6, d7, d8⟩ := hM
  have dc : ∀ q, q ∉ [2, 3, 4, 5, 6, 22, 27, 50, 51, 52, 53, 54] → H q = f q := fun q hq => by
    simp only [List.mem_cons, List.not_mem_nil, or_false, not_or] at hq
    rw [d2 q (by simp only [List.mem_cons, List.not_mem_nil, or_false]; omega), c2 q (by simp only [List.mem_cons, List.not_mem_nil, or_false]; omega)]
  refine OP.act c1 d1 ⟨c2 0 (by decide), c2 77 (by decide)⟩ ⟨d2 0 (by decide), d2 77 (by decide)⟩ ⟨n + 1, lk, updN ln n x3, c, mr, t, kc, ⟨⟨?_, by omega, ?_, h.lb, ?_, updN_le h.nb x3b⟩, ⟨d7, ?_, ?_, ?_, ?_, ?_⟩, h.1.2.2.1, ?_⟩, h.2.1.keep (by rw [dc 16 (by decide)]) (by rw [dc 57 (by decide)]) (dc 17 (by decide)) (dc 18 (by decide)) (dc 19 (by decide)) (fun j _ => by rw [dc 58 (by decide)]), h.2.2.1.keep (by rw [dc 10 (by decide)]) (by rw [d8 6 (by decide), c2 50 (by decide)]) (dc 11 (by decide)) (dc 56 (by decide)), h.M.keep (dc 21 (by decide)) (dc 59 (by decide)), h.K.blank hblk (by rw [dc 1 (by decide)]) (by rw [d8 16 (by decide), c2 50 (by decide)]) (fun q hq => dc q (fun z => ?_)), IC.none (by rw [d2 2 (by decide)]; exact c8) (by rw [dc 24 (by decide)]; exact h.C.2.1) (by rw [dc 36 (by decide)]; exact h.C.2.2.1) (by rw [d2 22 (by decide)]; exact c9) (by rw [d2 27 (by decide)]; exact c10)⟩
  · rw [d2 2 (by decide)]; exact c7
  · rw [dc 7 (by decide)]; exact h.1.1.2.2.1
  · rw [d2 5 (by decide), c5]; exact updN_I h.1.1.2.2.2.2.1 n x3
  · rw [d3, d2 3 (by decide), c3, c2 51 (by decide), h.1.2.1.2.1]
  · rw [d4, d2 4 (by decide), c4, c2 52 (by decide), h.1.2.1.2.2.1]
  · rw [d5, d2 5 (by decide), c5, c2 53 (by decide), h.1.2.1.2.2.2.1]
  · rw [d6, d2 6 (by decide), c6, c2 54 (by decide), h.1.2.1.2.2.2.2.1]
  · rw [dc 55 (by decide), dc 7 (by decide)]; exact h.1.2.1.2.2.2.2.2
  · intro s
    obtain ⟨y1, y2, y3, b1, b2, b3, b4, b5, b6⟩ := h.1.2.2.2 s
    rw [d2 3 (by decide), d2 4 (by decide), d2 6 (by decide), c3, c4, c6]
    by_cases e : s = n
    · subst e
      rw [upd_same, upd_same, upd_same]
      exact ⟨x1, x2, x4, rfl, x1b, rfl, x2b, rfl, x4b⟩
    · rw [upd_ne e, upd_ne e, upd_ne e]
      exact ⟨y1, y2, y3, b1, b2, b3, b4, b5, b6⟩
  · simp only [List.mem_cons, List.not_mem_nil, or_false] at z hq
    omega
end Ops7

