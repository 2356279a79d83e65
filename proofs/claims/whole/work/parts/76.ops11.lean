section Ops11
variable {n : Nat} {lk ln : Nat → Nat} {c : Nat} {mr : Nat → Nat} {t kc : Nat} {f g : Hp}
/-- a side's word behind a giving, and its code -/
theorem gv_town {sh wo : Nat → Nat} {la : Int32} {W : Nat → Int32} {U : Nat → Nat → Int32} {k : Nat} (h9 : n ≤ 9) (hsh : ∀ i, i < k → sh i < 2 ^ n) (hdis : ∀ i j v, i < j → j < k → (sh i).testBit v = true → (sh j).testBit v = false) (hcov : ∀ v, v < n → ∃ i, i < k ∧ (sh i).testBit v = true) (hwo : ∀ i, i < k → wo i < 36) (hinj : ∀ i j, i < j → j < k → wo i ≠ wo j) (hoff : ∀ s, n ≤ s → s < 9 → W s = -1) : TW n (fun s => ((gvS sh wo la W U k).1 s).toNatClampNeg) (gvS sh wo la W U k).1 ∧ ∀ s, s < n → ∃ i, i < k ∧ cdS n (fun s => ((gvS sh wo la W U k).1 s).toNatClampNeg) ((gvS sh wo la W U k).1 s).toNatClampNeg = sh i := by
  have hat : ∀ s i, i < k → (sh i).testBit s = true → (gvS sh wo la W U k).1 s = nI (wo i) := fun s i hi hb => gvS_at hb k hi (fun j h1 h2 => hdis i j s h1 h2 hb)
  have hcl : ∀ s i, i < k → (sh i).testBit s = true → ((gvS sh wo la W U k).1 s).toNatClampNeg = wo i := fun s i hi hb => by
    have := hwo i hi
    rw [hat s i hi hb, nI_clamp (by omega)]
  refine ⟨⟨fun s hs => ?_, fun s h1 h2 => ?_⟩, fun s hs => ?_⟩
  · obtain ⟨i, i1, i2⟩ := hcov s hs
    show (gvS sh wo la W U k).1 s = nI ((gvS sh wo la W U k).1 s).toNatClampNeg ∧ ((gvS sh wo la W U k).1 s).toNatClampNeg < 36
    rw [hcl s i i1 i2, hat s i i1 i2]
    exact ⟨rfl, hwo i i1⟩
  · rw [gvS_off k (fun j hj => lt_bit (hsh j hj) h1)]
    exact hoff s h1 h2
  · obtain ⟨i, i1, i2⟩ := hcov s hs
    refine ⟨i, i1, ?_⟩
    apply Nat.eq_of_testBit_eq
    intro v
    unfold cdS
    rw [setOf_bit]
    by_cases hv : v < n
    · obtain ⟨j, j1, j2⟩ := hcov v hv
      have e1 := hcl s i i1 i2
      have e2 := hcl v j j1 j2
      rw [decide_eq_true hv, Bool.true_and]
      show decide (((gvS sh wo la W U k).1 v).toNatClampNeg = ((gvS sh wo la W U k).1 s).toNatClampNeg) = _
      rw [e1, e2]
      rcases Nat.lt_trichotomy i j with e | e | e
      · rw [decide_eq_false (fun z => hinj i j e j1 z.symm)]
        cases hx : (sh i).testBit v with
        | false => rfl
        | true => rw [hdis i j v e j1 hx] at j2; cases j2
      · subst e
        rw [j2, decide_eq_true rfl]
      · rw [decide_eq_false (hinj j i e i1), hdis j i v e i1 j2]
    · rw [decide_eq_false hv, Bool.false_and, lt_bit (hsh i i1) (by omega)]
theorem op_give (h : Iv n lk ln c mr t kc f) (a1 a2 : Int32) : OP 87 166 [.int a1, .int a2] f := by
  by_cases e1 : wi a1 0 14600 = true
  case neg =>
    have e1 : wi a1 0 14600 = false := by simpa using e1
    exact OP.same h (r := -1) (by rw [eX8_give_1, c_isDay, am_cal_some, e1, bi_f, if_pos rfl]) (by rw [eX9_give_50, m_isDay, am_cal_some, e1, bi_f, if_pos rfl])
  by_cases e2 : wi a2 2 4 = true
  case neg =>
    have e2 : wi a2 2 4 = false := by simpa using e2
    exact OP.same h (r := -1) (by rw [eX8_give_1, c_isDay, am_cal_some, e1, bi_t, if_neg one_ne, c_within', am_cal_some, e2, bi_f, if_pos rfl]) (by rw [eX9_give_50, m_isDay, am_cal_some, e1, bi_t, if_neg one_ne, m_in' _ _ 2 4 (by decide) (by decide), am_cal_some, e2, bi_f, if_pos rfl])
  by_cases e3 : a1 < f 37 4
  case pos =>
    exact OP.same h (r := -2) (by rw [eX8_give_1, c_isDay, am_cal_some, e1, bi_t, if_neg one_ne, c_within', am_cal_some, e2, bi_t, if_neg one_ne, if_pos e3]) (by rw [eX9_give_50, m_isDay, am_cal_some, e1, bi_t, if_neg one_ne, m_in' _ _ 2 4 (by decide) (by decide), am_cal_some, e2, bi_t, if_neg one_ne, ald_0 _ _ _ (by decide) (by decide), h.tl, if_pos e3])
  obtain ⟨d, hd, rfl⟩ := wi_day e1
  obtain ⟨l, l2, l4, rfl⟩ := wi_nat (lo := 2) (hi := 4) (by omega) (by omega) e2
  have h9 := h.n9
  obtain ⟨g, g1, g2, g3, g4, g5, g6⟩ := h.canW hd
  have hl := SH_len (R := Rd (f 3) (f 4) (f 17) (f 18) (f 19) n c lk ln (nI d)) (Wt := Wd lk ln n) (n := n)
  have hl : (shO n lk ln c d f).length ≤ 9 := hl
  have e3g : ¬ nI d < g 37 4 := by rw [g6 37 (by decide)]; exact e3
  by_cases e4 : 1 ≤ (shO n lk ln c d f).length ∧ (shO n lk ln c d f).length ≤ 4
  case neg =>
    obtain ⟨k, k1, k2, k3, k4, k5, k6⟩ := g2.layS d
    rw [g5] at k1 k6
    refine OP.ask g2 (h := k) (r := -2) ?_ ?_ g3 k3
    · have : (decide (1 ≤ (shO n lk ln c d f).length) && decide ((shO n lk ln c d f).length ≤ 4)) = false := by
        rw [← Bool.not_eq_true]
        intro z
        exact e4 (by simpa using z)
      rw [eX8_give_1, c_isDay, am_cal_some, e1, bi_t, if_neg one_ne, c_within', am_cal_some, e2, bi_t, if_neg one_ne, if_neg e3, g1, this, am_cal_some, bi_f, if_pos rfl]
    · rw [eX9_give_50, m_isDay, am_cal_some, e1, bi_t, if_neg one_ne, m_in' _ _ 2 4 (by decide) (by decide), am_cal_some, e2, bi_t, if_neg one_ne, ald_0 _ _ _ (by decide) (by decide), g2.tl, if_neg e3g, k1, am_cal_some]
      by_cases e5 : shO n lk ln c d f = []
      · rw [decide_eq_false (fun z => z e5), bi_f, if_pos rfl]
      · have e6 : (shO n lk ln c d f).length ≠ 0 := fun z => e5 (List.eq_nil_of_length_eq_zero z)
        rw [decide_eq_true e5, bi_t, if_neg one_ne, k6, if_pos (show (4 : Int32) < nI (shO n lk ln c d f).length from nI_lt (a := 4) (by omega) (by omega))]
  have e5 : (decide (1 ≤ (shO n lk ln c d f).length) && decide ((shO n lk ln c d f).length ≤ 4)) = true := by simpa using e4
  rw [e5] at g1
  obtain ⟨g', q1, q2, q3, q4, q5⟩ := g2.findW hd l2 l4 g4 (by rw [g5]; exact e4.2)
  have hs1 : shO n lk ln c d g' = shO n lk ln c d f := by rw [shO_congr q3.cells, g5]
  have hw0 : wbO n lk ln c mr d l g = wbO n lk ln c mr d l g' := (wbO_congr q3.cells d l).symm
  have hwg : WB (fun w => stW (g 17) (g 18) (g 19) c (wd l w)) (hmN lk n (fun a => (shO n lk ln c d g).getD a 0) mr l) (l * l) (shO n lk ln c d g).length = wbO n lk ln c mr d l g' := hw0
  have hWV := q5
  unfold WV at hWV
  rw [hwg, g5, ← hs1] at hWV
  rw [hw0] at q1
  have ag := g3.trans q3
  have e3h : ¬ nI d < g' 37 4 := by rw [q4 37 (by decide)]; exact e3g
  have c22 : g' 22 6 = nI (shO n lk ln c d g').length := by rw [q4 22 (by decide), hs1, ← g5]; exact g4.2.1
  have c26 : ∀ j, j < (shO n lk ln c d g').length → g' 26 j = nI ((shO n lk ln c d g').getD j 0) := by
    rw [q4 26 (by decide), hs1, ← g5]; exact g4.2.2.2
  rw [← hs1] at e4
  have hne : shO n lk ln c d g' ≠ [] := fun z => by rw [z] at e4; exact absurd e4.1 (by decide)
  have hk4 : ¬ (4 : Int32) < nI (shO n lk ln c d g').length := nI_nlt (b := (shO n lk ln c d g').length) (a := 4) e4.2 (by decide)
  cases hz : wbO n lk ln c mr d l g' with
  | none =>
    rw [hz] at q1
    obtain ⟨k, k1, k2, k3, k4, k5, k6⟩ := q2.layS d
    obtain ⟨k', m1, m2, m3, m4, m5⟩ := k2.layW l2 l4 k4 (by rw [k5]; exact e4.1) (by rw [k5]; exact e4.2)
    rw [wbO_congr k3.cells, hz] at m1
    refine OP.ask q2 (h := k') (r := -3) ?_ ?_ ag (k3.trans m2)
    · rw [eX8_give_1, c_isDay, am_cal_some, e1, bi_t, if_neg one_ne, c_within', am_cal_some, e2, bi_t, if_neg one_ne, if_neg e3, g1, am_cal_some, bi_t, if_neg one_ne, q1, am_cal_some, decide_eq_true rfl, Bool.not_true, bi_f, if_pos rfl]
    · rw [eX9_give_50, m_isDay, am_cal_some, e1, bi_t, if_neg one_ne, m_in' _ _ 2 4 (by decide) (by decide), am_cal_some, e2, bi_t, if_neg one_ne, ald_0 _ _ _ (by decide) (by decide), q2.tl, if_neg e3h, k1, am_cal_some, decide_eq_true hne, bi_t, if_neg one_ne, k6, if_neg hk4, m1, am_cal_some, decide_eq_true rfl, Bool.not_true, bi_f, if_pos rfl]
  | some z =>
    rw [hz] at q1 hWV
    have dn : decide ((some z : WAcc) = none) = false := rfl
    rw [dn, Bool.not_false, bi_t] at q1
    obtain ⟨w1, w2, w3, w4⟩ := hWV
    obtain ⟨w5, w6⟩ := w4 z rfl
    obtain ⟨z1, z2⟩ := WB_ok (show WB _ _ _ _ = some z from hz)
    have zin := (lgl_iff.mp z1).2
    obtain ⟨s1, s2, s3⟩ := SH_ok (R := Rd (g' 3) (g' 4) (g' 17) (g' 18) (g' 19) n c lk ln (nI d)) (Wt := Wd lk ln n) h9
    have h5 := pow9 h9
    have hwo : ∀ i, i < (shO n lk ln c d g').length → wd l (z.2 i) < 36 := fun i hi => (wd_ok l2 l4 (z2 i hi)).1
    have hinj : ∀ i j, i < j → j < (shO n lk ln c d g').length → wd l (z.2 i) ≠ wd l (z.2 j) := fun i j h1 h2 e => zin i j h1 h2 ((wd_inj l2 l4 (z2 i (by omega)) (z2 j h2)).mp e)
    -- the class
    obtain ⟨G, c1, c2, c3, c4, c5⟩ := c_gvL (sh := fun a => (shO n lk ln c d g').getD a 0) (wo := fun i => wd l (z.2 i)) (la := nI d + vO g' c 2 (nI d)) (W := g' 38) (U := fun s x => g' 39 (s * 36 + x)) (c := c) e4.2 (fun i hi => Nat.lt_of_lt_of_le (s1 i hi).2.2 h5) hwo q2.okW (nI d) h.c40 (shO n lk ln c d g').length 0 g' (by omega) c22 c26 w6 q2.c3 rfl (q2.CT0 (fun q _ => rfl))
    have c1 : am_run 87 57 [.ref 1, .int (nI d), .null, .int 0] [] g' = _ := c1
    have me : ME g' G := ME.of (fun q hq => c2 q (by simp only [List.mem_cons, List.not_mem_nil, or_false]; omega))
    -- the reference
    obtain ⟨k, k1, k2, k3, k4, k5, k6⟩ := q2.e_layS me d
    obtain ⟨k', m1, m2, m3, m4, m5⟩ := q2.e_layW k4 l2 l4 k5 k6 e4.1 e4.2
    rw [hz, dn, Bool.not_false, bi_t] at m1
    have m5 := m5 z hz
    have n25 : k' 50 25 = nI (shO n lk ln c d g').length := by rw [m3 25 (by decide)]; exact k5
    obtain ⟨H1, H, p1, p2, p3, p4⟩ := m_gvL (f := g') (sh := fun a => (shO n lk ln c d g').getD a 0) (wo := fun i => wd l (z.2 i)) (la := nI d + vO g' c 2 (nI d)) (W := g' 38) (U := fun s x => g' 39 (s * 36 + x)) (c := c) h9 e4.2 (fun i hi => (s1 i hi).2.2) hwo q2.okW (nI d) rfl (shO n lk ln c d g').length 0 k' (by omega) (q2.e_n m4) n25 (by rw [m2 70 (by decide) (by decide) (by decide)]; exact k6) m5 (q2.e_ov m4) (q2.MT0 m4)
    have p1 : am_run 166 65 [.ref 50, .int (nI d), .null, .int 0, .null] [] k' = _ := p1
    have g62 : G 62 0 = g' 37 4 := by rw [c2 62 (by decide)]; exact q2.tl
    obtain ⟨hTW, hcd⟩ := gv_town (la := nI d + vO g' c 2 (nI d)) (W := g' 38) (U := fun s x => g' 39 (s * 36 + x)) (sh := fun a => (shO n lk ln c d g').getD a 0) (wo := fun i => wd l (z.2 i)) h9 (fun i hi => (s1 i hi).2.2) s2 (s3 hne) hwo hinj q2.tm
    have hn1 : 1 ≤ n := by
      have := s1 0 e4.1
      rcases Nat.eq_zero_or_pos n with e | e
      · rw [e] at this
        have := this.2
        omega
      · exact e
    have hkG : ∀ q, q < 50 ∨ q = 77 ∨ (51 ≤ q ∧ q ≤ 64) → k' q = G q := fun q hq => by
      rw [m2 q (by omega) (by omega) (by omega), k2 q (by simp only [List.mem_cons, List.not_mem_nil, or_false]; omega)]
    have hHG : ∀ q, q < 50 ∨ q = 77 ∨ (51 ≤ q ∧ q ≤ 64 ∧ q ≠ 60 ∧ q ≠ 61 ∧ q ≠ 62) → H q = G q := fun q hq => by
      rw [p4, am_up_ne (by omega), p2.1 q (by omega) (by omega), hkG q (by omega)]
    have hH50 : ∀ j, j ≠ 25 → j ≠ 27 → H 50 j = G 50 j := fun j h1 h2 => by
      rw [p4, am_up_ne (by decide), p2.1 50 (by decide) (by decide), m3 j h2, k3 j h1]
    refine OP.act (g := G) (h := H) (r := nI (shO n lk ln c d g').length) ?_ ?_ ⟨by rw [c2 0 (by decide), ag.2.1], by rw [c2 77 (by decide), ag.1 77 (by decide)]⟩ ⟨hHG 0 (by decide), hHG 77 (by decide)⟩ (q2.acted (G := G) (H := H) (d := d) c2 (c4 3 (by decide)) c3 hd c5 (fun q hq => hHG q (Or.inl hq)) (hH50 0 (by decide) (by decide)) (hH50 6 (by decide) (by decide)) (hH50 16 (by decide) (by decide)) (fun q h1 h2 h3 => hHG q (Or.inr (Or.inr ?_))) (fun j hj => ?_) (fun j hj => ?_) (fun j hj => ?_) ?_ ?_ hn1 hTW (fun s hs => ?_))
    · rw [eX8_give_1, c_isDay, am_cal_some, e1, bi_t, if_neg one_ne, c_within', am_cal_some, e2, bi_t, if_neg one_ne, if_neg e3, g1, am_cal_some, bi_t, if_neg one_ne, q1, am_cal_some, if_neg one_ne, c1]
    · rw [eX9_give_50, m_isDay, am_cal_some, e1, bi_t, if_neg one_ne, m_in' _ _ 2 4 (by decide) (by decide), am_cal_some, e2, bi_t, if_neg one_ne, ald_0 _ _ _ (by decide) (by decide), g62, if_neg e3h, k1, am_cal_some, decide_eq_true hne, bi_t, if_neg one_ne, k5, if_neg hk4, m1, am_cal_some, if_neg one_ne, p1]
    · simp only [List.mem_cons, List.not_mem_nil, or_false, not_or] at h3
      omega
    · rw [p4, am_up_ne (by decide), p2.2.1 j hj, hkG 60 (by decide)]
    · rw [p4, am_up_ne (by decide), p2.2.2 j hj, hkG 61 (by decide)]
    · rw [p4, am_up_j (by omega), p2.1 62 (by decide) (by decide), hkG 62 (by decide)]
    · rw [p4, am_up_same]
    · rw [p4]
      exact ⟨fun s hs => by rw [am_up_ne (by decide)]; exact p3.1 s hs, fun s x hs hx => by rw [am_up_ne (by decide)]; exact p3.2 s x hs hx⟩
    · obtain ⟨i, i1, i2⟩ := hcd s hs
      rw [i2]
      have := Rd_W (s1 i i1).1
      show WS lk ln n ((shO n lk ln c d g').getD i 0) ≠ none
      unfold shO
      rw [this]
      exact fun z => by cases z
end Ops11

