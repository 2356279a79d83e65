section Ops6
variable {n : Nat} {lk ln : Nat → Nat} {c : Nat} {mr : Nat → Nat} {t kc : Nat} {f g : Hp}
theorem shO_congr (hc : ∀ q, q ∈ [3, 4, 17, 18, 19] → g q = f q) (d : Nat) : shO n lk ln c d g = shO n lk ln c d f := by
  unfold shO
  rw [hc 3 (by decide), hc 4 (by decide), hc 17 (by decide), hc 18 (by decide), hc 19 (by decide)]
theorem wbO_congr (hc : ∀ q, q ∈ [3, 4, 17, 18, 19] → g q = f q) (d l : Nat) : wbO n lk ln c mr d l g = wbO n lk ln c mr d l f := by
  unfold wbO
  rw [shO_congr hc d, hc 17 (by decide), hc 18 (by decide), hc 19 (by decide)]
theorem AgC.cells (a : AgC f g) : ∀ q, q ∈ [3, 4, 17, 18, 19] → g q = f q := fun q hq => a.2.2.1 q (fun z => by
  simp only [List.mem_cons, List.not_mem_nil, or_false] at z hq
  omega)
theorem AgR.cells (a : AgR f g) : ∀ q, q ∈ [3, 4, 17, 18, 19] → g q = f q := fun q hq => a.1 q (by
  simp only [List.mem_cons, List.not_mem_nil, or_false] at hq
  omega)
theorem Rd_cells (hc : ∀ q, q ∈ [3, 4, 17, 18, 19] → g q = f q) (day : Int32) : Rd (g 3) (g 4) (g 17) (g 18) (g 19) n c lk ln day = Rd (f 3) (f 4) (f 17) (f 18) (f 19) n c lk ln day := by
  rw [hc 3 (by decide), hc 4 (by decide), hc 17 (by decide), hc 18 (by decide), hc 19 (by decide)]
/-- can the shapes of a day have words -/
theorem Iv.canW (h : Iv n lk ln c mr t kc f) {d : Nat} (hd : d ≤ 14600) : ∃ g, am_call 114 [.ref 1, .int (nI d)] f = some (bi (decide (1 ≤ (shO n lk ln c d f).length) && decide ((shO n lk ln c d f).length ≤ 4)), g) ∧ Iv n lk ln c mr t kc g ∧ AgC f g ∧ SV (Rd (g 3) (g 4) (g 17) (g 18) (g 19) n c lk ln (nI d)) (Wd lk ln n) n g ∧ shO n lk ln c d g = shO n lk ln c d f ∧ (∀ q, q ∉ [2, 8, 9, 22, 23, 24, 25, 26] → g q = f q) := by
  obtain ⟨g, g1, g2, g3, g4, g5⟩ := h.shapeOn hd
  have hl := SH_len (R := Rd (f 3) (f 4) (f 17) (f 18) (f 19) n c lk ln (nI d)) (Wt := Wd lk ln n) (n := n)
  refine ⟨g, ?_, g2, g3, by rw [Rd_cells g3.cells]; exact g4, shO_congr g3.cells d, g5⟩
  have := wi_nI (s := (shO n lk ln c d f).length) (lo := 1) (hi := 4) (by omega) (by omega) (by unfold shO; omega)
  have e6 : g 22 6 = nI (shO n lk ln c d f).length := g4.2.1
  have h1 : wi (nI (shO n lk ln c d f).length) 1 4 = _ := this
  rw [eX8_canBeWorded_1, g1, am_cal_some, c_within', e6, h1, am_cal_some, am_z_bi]
/-- the same of the reference, before its words -/
theorem Iv.layS (h : Iv n lk ln c mr t kc f) (d : Nat) : ∃ k, am_call 149 [.ref 50, .int (nI d)] f = some (bi (decide (shO n lk ln c d f ≠ [])), k) ∧ Iv n lk ln c mr t kc k ∧ AgR f k ∧ MV (Rd (k 3) (k 4) (k 17) (k 18) (k 19) n c lk ln (nI d)) (Wd lk ln n) n k ∧ shO n lk ln c d k = shO n lk ln c d f ∧ k 50 25 = nI (shO n lk ln c d f).length := by
  obtain ⟨k, k1, k2, k3, k4⟩ := h.layShapes (nI d)
  exact ⟨k, k1, h.ref k2, k2, by rw [Rd_cells k2.cells]; exact k4, shO_congr k2.cells d, k4.2.1⟩
theorem op_words (h : Iv n lk ln c mr t kc f) (a1 a2 a3 : Int32) : OP 82 161 [.int a1, .int a2, .int a3] f := by
  by_cases e1 : wi a1 0 14600 = true
  case neg =>
    have e1 : wi a1 0 14600 = false := by simpa using e1
    exact OP.same h (r := -1) (by rw [eX8_words_1, c_isDay, am_cal_some, e1, bi_f, if_pos rfl]) (by rw [eX9_words_50, m_isDay, am_cal_some, e1, bi_f, if_pos rfl])
  by_cases e2 : wi a2 2 4 = true
  case neg =>
    have e2 : wi a2 2 4 = false := by simpa using e2
    exact OP.same h (r := -1) (by rw [eX8_words_1, c_isDay, am_cal_some, e1, bi_t, if_neg one_ne, c_within', am_cal_some, e2, bi_f, if_pos rfl]) (by rw [eX9_words_50, m_isDay, am_cal_some, e1, bi_t, if_neg one_ne, m_in' _ _ 2 4 (by decide) (by decide), am_cal_some, e2, bi_f, if_pos rfl])
  by_cases e3 : a3 < (-1)
  case pos =>
    exact OP.same h (r := -1) (by rw [eX8_words_1, c_isDay, am_cal_some, e1, bi_t, if_neg one_ne, c_within', am_cal_some, e2, bi_t, if_neg one_ne, if_pos e3]) (by rw [eX9_words_50, m_isDay, am_cal_some, e1, bi_t, if_neg one_ne, m_in' _ _ 2 4 (by decide) (by decide), am_cal_some, e2, bi_t, if_neg one_ne, if_pos e3])
  obtain ⟨d, hd, rfl⟩ := wi_day e1
  obtain ⟨l, l2, l4, rfl⟩ := wi_nat (lo := 2) (hi := 4) (by omega) (by omega) e2
  obtain ⟨g, g1, g2, g3, g4, g5, g6⟩ := h.canW hd
  have hl := SH_len (R := Rd (f 3) (f 4) (f 17) (f 18) (f 19) n c lk ln (nI d)) (Wt := Wd lk ln n) (n := n)
  have hl : (shO n lk ln c d f).length ≤ 9 := hl
  by_cases e4 : 1 ≤ (shO n lk ln c d f).length ∧ (shO n lk ln c d f).length ≤ 4
  case neg =>
    obtain ⟨k, k1, k2, k3, k4, k5, k6⟩ := g2.layS d
    rw [g5] at k1 k6
    refine OP.ask g2 (h := k) (r := -2) ?_ ?_ g3 k3
    · have : (decide (1 ≤ (shO n lk ln c d f).length) && decide ((shO n lk ln c d f).length ≤ 4)) = false := by
        rw [← Bool.not_eq_true]
        intro z
        exact e4 (by simpa using z)
      rw [eX8_words_1, c_isDay, am_cal_some, e1, bi_t, if_neg one_ne, c_within', am_cal_some, e2, bi_t, if_neg one_ne, if_neg e3, g1, this, am_cal_some, bi_f, if_pos rfl]
    · rw [eX9_words_50, m_isDay, am_cal_some, e1, bi_t, if_neg one_ne, m_in' _ _ 2 4 (by decide) (by decide), am_cal_some, e2, bi_t, if_neg one_ne, if_neg e3, k1, am_cal_some]
      by_cases e5 : shO n lk ln c d f = []
      · rw [decide_eq_false (fun z => z e5), bi_f, if_pos rfl]
      · have e6 : (shO n lk ln c d f).length ≠ 0 := fun z => e5 (List.eq_nil_of_length_eq_zero z)
        rw [decide_eq_true e5, bi_t, if_neg one_ne, k6, if_pos (show (4 : Int32) < nI (shO n lk ln c d f).length from nI_lt (a := 4) (by omega) (by omega))]
  have e5 : (decide (1 ≤ (shO n lk ln c d f).length) && decide ((shO n lk ln c d f).length ≤ 4)) = true := by simpa using e4
  rw [e5] at g1
  have hne : shO n lk ln c d f ≠ [] := fun z => by rw [z] at e4; exact absurd e4.1 (by decide)
  obtain ⟨g', q1, q2, q3, q4, q5⟩ := g2.findW hd l2 l4 g4 (by rw [g5]; exact e4.2)
  rw [wbO_congr g3.cells] at q1
  obtain ⟨k, k1, k2, k3, k4, k5, k6⟩ := q2.layS d
  have hs1 : shO n lk ln c d g' = shO n lk ln c d f := by rw [shO_congr q3.cells, g5]
  rw [hs1] at k1 k5 k6
  obtain ⟨k', m1, m2, m3, m4, m5⟩ := k2.layW l2 l4 k4 (by rw [k5]; exact e4.1) (by rw [k5]; exact e4.2)
  have hw1 : wbO n lk ln c mr d l k = wbO n lk ln c mr d l f := by rw [wbO_congr k3.cells, wbO_congr q3.cells, wbO_congr g3.cells]
  rw [hw1] at m1 m5
  rw [k5] at m5
  have hk4 : ¬ (4 : Int32) < nI (shO n lk ln c d f).length := nI_nlt (b := (shO n lk ln c d f).length) (a := 4) e4.2 (by decide)
  have ag := g3.trans q3
  have ar := k3.trans m2
  have c22 : g' 22 6 = nI (shO n lk ln c d f).length := by rw [q4 22 (by decide), ← g5]; exact g4.2.1
  have hWV : WV (fun w => stW (g 17) (g 18) (g 19) c (wd l w)) (hmN lk n (fun a => (shO n lk ln c d g).getD a 0) mr l) l (l * l) (shO n lk ln c d g).length g' := q5
  have hwg : WB (fun w => stW (g 17) (g 18) (g 19) c (wd l w)) (hmN lk n (fun a => (shO n lk ln c d g).getD a 0) mr l) (l * l) (shO n lk ln c d g).length = wbO n lk ln c mr d l f := wbO_congr g3.cells d l
  unfold WV at hWV
  rw [hwg, g5] at hWV
  cases hz : wbO n lk ln c mr d l f with
  | none =>
    rw [hz] at q1 m1
    refine OP.ask q2 (h := k') (r := -4) ?_ ?_ ag ar
    · rw [eX8_words_1, c_isDay, am_cal_some, e1, bi_t, if_neg one_ne, c_within', am_cal_some, e2, bi_t, if_neg one_ne, if_neg e3, g1, am_cal_some, bi_t, if_neg one_ne, q1, am_cal_some, decide_eq_true rfl, Bool.not_true, bi_f, if_pos rfl]
    · rw [eX9_words_50, m_isDay, am_cal_some, e1, bi_t, if_neg one_ne, m_in' _ _ 2 4 (by decide) (by decide), am_cal_some, e2, bi_t, if_neg one_ne, if_neg e3, k1, am_cal_some, decide_eq_true hne, bi_t, if_neg one_ne, k6, if_neg hk4, m1, am_cal_some, decide_eq_true rfl, Bool.not_true, bi_f, if_pos rfl]
  | some z =>
    rw [hz] at q1 m1 m5
    rw [hz] at hWV
    have dn : decide ((some z : WAcc) = none) = false := rfl
    rw [dn, Bool.not_false, bi_t] at q1 m1
    obtain ⟨w1, w2, w3, w4⟩ := hWV
    obtain ⟨w5, w6⟩ := w4 z rfl
    obtain ⟨m6, m7⟩ := m5
    obtain ⟨-, m8⟩ := m7 z rfl
    have m9 : k' 50 25 = nI (shO n lk ln c d f).length := by rw [m4]; exact k6
    by_cases e6 : a3 = -1
    · refine OP.ask q2 (h := k') (r := nI z.1) ?_ ?_ ag ar
      · rw [eX8_words_1, c_isDay, am_cal_some, e1, bi_t, if_neg one_ne, c_within', am_cal_some, e2, bi_t, if_neg one_ne, if_neg e3, g1, am_cal_some, bi_t, if_neg one_ne, q1, am_cal_some, if_neg one_ne, if_pos e6, w3]; rfl
      · rw [eX9_words_50, m_isDay, am_cal_some, e1, bi_t, if_neg one_ne, m_in' _ _ 2 4 (by decide) (by decide), am_cal_some, e2, bi_t, if_neg one_ne, if_neg e3, k1, am_cal_some, decide_eq_true hne, bi_t, if_neg one_ne, k6, if_neg hk4, m1, am_cal_some, if_neg one_ne, if_pos (show a3 < 0 by rw [e6]; decide), m6]; rfl
    · have e7 := ge_of e3 e6
      obtain ⟨i, hi, rfl⟩ := nn_of e7
      by_cases e8 : i < (shO n lk ln c d f).length
      · refine OP.ask q2 (h := k') (r := nI (wd l (z.2 i))) ?_ ?_ ag ar
        · rw [eX8_words_1, c_isDay, am_cal_some, e1, bi_t, if_neg one_ne, c_within', am_cal_some, e2, bi_t, if_neg one_ne, if_neg e3, g1, am_cal_some, bi_t, if_neg one_ne, q1, am_cal_some, if_neg one_ne, if_neg e6, c22, if_pos (nI_lt e8 (by omega)), if_pos (show nI i < (4 : Int32) from nI_lt (b := 4) (by omega) (by decide)), am_ald_in _ _ _ (show i < 4 by omega) (by decide), w6 i e8]
        · rw [eX9_words_50, m_isDay, am_cal_some, e1, bi_t, if_neg one_ne, m_in' _ _ 2 4 (by decide) (by decide), am_cal_some, e2, bi_t, if_neg one_ne, if_neg e3, k1, am_cal_some, decide_eq_true hne, bi_t, if_neg one_ne, k6, if_neg hk4, m1, am_cal_some, if_neg one_ne, if_neg e7, m9, if_pos (nI_lt e8 (by omega)), am_ald_in _ _ _ (show i < 4 by omega) (by decide), m8 i e8]
      · refine OP.ask q2 (h := k') (r := -4) ?_ ?_ ag ar
        · rw [eX8_words_1, c_isDay, am_cal_some, e1, bi_t, if_neg one_ne, c_within', am_cal_some, e2, bi_t, if_neg one_ne, if_neg e3, g1, am_cal_some, bi_t, if_neg one_ne, q1, am_cal_some, if_neg one_ne, if_neg e6, c22, if_neg (nI_nlt (by omega) hi)]
        · rw [eX9_words_50, m_isDay, am_cal_some, e1, bi_t, if_neg one_ne, m_in' _ _ 2 4 (by decide) (by decide), am_cal_some, e2, bi_t, if_neg one_ne, if_neg e3, k1, am_cal_some, decide_eq_true hne, bi_t, if_neg one_ne, k6, if_neg hk4, m1, am_cal_some, if_neg one_ne, if_neg e7, m9, if_neg (nI_nlt (by omega) hi)]
end Ops6

