section Ops2
variable {n : Nat} {lk ln : Nat → Nat} {c : Nat} {mr : Nat → Nat} {t kc : Nat} {f g : Hp}
theorem ldS_le {x ix : Nat → Nat} {B S : Nat} (h : ∀ s, x s ≤ B) : ∀ n, ldS x ix n S ≤ B * n
  | 0 => Nat.le_refl _
  | n + 1 => by
    have ih := ldS_le (ix := ix) (S := S) h n
    have h1 := h n
    unfold ldS at ih ⊢
    rw [smN, Nat.mul_succ]
    by_cases e : S.testBit (ix n) = true
    · rw [if_pos e]; omega
    · rw [if_neg e]; omega
/-- weights of sides -/
def wtN (f : Hp) (d s : Nat) : Nat := (f 6 s).toNatClampNeg * ((f 3 s).toNatClampNeg + (f 4 s).toNatClampNeg * (d / 365))
theorem wtN_ok (hD : DB f) {d : Nat} (hd : d ≤ 14600) (s : Nat) : f 6 s * (f 3 s + f 4 s * (nI d / 365)) = nI (wtN f d s) ∧ wtN f d s ≤ 50000 := by
  obtain ⟨x, y, m, e1, e2, e3, e4, e5, e6⟩ := hD s
  have e7 : nI d / 365 = nI (d / 365) := pk_div (by omega) (by decide) (by decide)
  unfold wtN
  rw [e1, e3, e5, nI_clamp (by omega), nI_clamp (by omega), nI_clamp (by omega), e7, pk_mul, nI_add, pk_mul]
  refine ⟨rfl, ?_⟩
  have h1 : d / 365 ≤ 40 := by omega
  have h2 : y * (d / 365) ≤ 20 * 40 := Nat.mul_le_mul e4 h1
  exact Nat.mul_le_mul e6 (show x + y * (d / 365) ≤ 1000 by omega)
theorem IC.keep36 (h : IC n lk ln c mr f) (h36 : g 36 0 = 0) (hc : ∀ q, q ∈ [2, 3, 4, 8, 9, 17, 18, 19, 22, 23, 24, 26, 27, 32] → g q = f q) : IC n lk ln c mr g := by
  unfold IC WC W1 SV WV shO
  rw [h36, hc 2 (by decide), hc 3 (by decide), hc 4 (by decide), hc 8 (by decide), hc 9 (by decide), hc 17 (by decide), hc 18 (by decide), hc 19 (by decide), hc 22 (by decide), hc 23 (by decide), hc 24 (by decide), hc 26 (by decide), hc 27 (by decide), hc 32 (by decide)]
  exact ⟨h.1, h.2.1, rfl, h.2.2.2⟩
theorem op_rounds (h : Iv n lk ln c mr t kc f) (a1 a2 a3 : Int32) : OP 98 178 [.int a1, .int a2, .int a3] f := by
  by_cases e1 : wi a1 0 14600 = true
  case neg =>
    have e1 : wi a1 0 14600 = false := by simpa using e1
    exact OP.same h (r := -1) (by rw [eX8_rounds_1, c_isDay, am_cal_some, e1, bi_f, if_pos rfl]) (by rw [eX9_rounds_50, m_isDay, am_cal_some, e1, bi_f, if_pos rfl])
  by_cases e2 : wi a2 1 1000000 = true
  case neg =>
    have e2 : wi a2 1 1000000 = false := by simpa using e2
    exact OP.same h (r := -1) (by rw [eX8_rounds_1, c_isDay, am_cal_some, e1, bi_t, if_neg one_ne, c_within', am_cal_some, e2, bi_f, if_pos rfl]) (by rw [eX9_rounds_50, m_isDay, am_cal_some, e1, bi_t, if_neg one_ne, m_in' _ _ 1 1000000 (by decide) (by decide), am_cal_some, e2, bi_f, if_pos rfl])
  by_cases e3 : wi a3 0 1 = true
  case neg =>
    have e3 : wi a3 0 1 = false := by simpa using e3
    exact OP.same h (r := -1) (by rw [eX8_rounds_1, c_isDay, am_cal_some, e1, bi_t, if_neg one_ne, c_within', am_cal_some, e2, bi_t, if_neg one_ne, c_within', am_cal_some, e3, bi_f, if_pos rfl]) (by rw [eX9_rounds_50, m_isDay, am_cal_some, e1, bi_t, if_neg one_ne, m_in' _ _ 1 1000000 (by decide) (by decide), am_cal_some, e2, bi_t, if_neg one_ne, m_in' _ _ 0 1 (by decide) (by decide), am_cal_some, e3, bi_f, if_pos rfl])
  by_cases e4 : (!decide (f 37 4 < 0)) = true
  case neg =>
    have e4 : (!decide (f 37 4 < 0)) = false := by simpa using e4
    exact OP.same h (r := -2) (by rw [eX8_rounds_1, c_isDay, am_cal_some, e1, bi_t, if_neg one_ne, c_within', am_cal_some, e2, bi_t, if_neg one_ne, c_within', am_cal_some, e3, bi_t, if_neg one_ne, c_isGiven, am_cal_some, e4, bi_f, if_pos rfl]) (by rw [eX9_rounds_50, m_isDay, am_cal_some, e1, bi_t, if_neg one_ne, m_in' _ _ 1 1000000 (by decide) (by decide), am_cal_some, e2, bi_t, if_neg one_ne, m_in' _ _ 0 1 (by decide) (by decide), am_cal_some, e3, bi_t, if_neg one_ne, h.areGiven, am_cal_some, e4, bi_f, if_pos rfl])
  obtain ⟨d, hd, rfl⟩ := wi_day e1
  obtain ⟨b, hb1, hb, rfl⟩ := wi_nat (lo := 1) (hi := 1000000) (by omega) (by omega) e2
  have h9 := h.n9
  rcases h.gv with ⟨hz, -⟩ | ⟨-, ww, ed, dl, hg⟩
  · rw [decide_eq_true hz] at e4; cases e4
  have hTW : TW n ww (f 38) := hg.2.1
  have hx := fun s => (wtN_ok (f := f) h.1.2.2.2 hd s).1
  have hL : ∀ ix S, ldS (wtN f d) ix n S < 1000000 := fun ix S => by
    have := ldS_le (ix := ix) (S := S) (fun s => (wtN_ok (f := f) h.1.2.2.2 hd s).2) n
    omega
  obtain ⟨g, g1, g2, g3, g4, g5⟩ := c_weigh h.n7 h9 hTW (fun s _ => hx s)
  have hc1 := cx_le (stand := fst1 ww) n
  have hc2 := cx_usd ww 36 n
  obtain ⟨T, t1, t2⟩ := c_fewest (hL (ixA ww n)) hb g4 (by omega) g5 (by rw [g2 36 (by decide) (by decide) (by decide)]; exact h.C.2.2.1)
  have gg : ∀ q, q ∉ [33, 34, 35, 36] → setC g 36 T q = f q := fun q hq => by
    simp only [List.mem_cons, List.not_mem_nil, or_false, not_or] at hq
    rw [setC_ne hq.2.2.2, g2 q hq.1 hq.2.1 hq.2.2.1]
  have ag : AgC f (setC g 36 T) := AgC.of (fun q hq => gg q (fun z => hq (by
    simp only [List.mem_cons, List.not_mem_nil, or_false] at z ⊢
    omega))) (fun j _ => by rw [gg 2 (by decide)])
  have hi : Iv n lk ln c mr t kc (setC g 36 T) := h.cls ag (h.C.keep36 (by rw [setC_eq]; exact t2) (fun q hq => gg q (fun z => by
    simp only [List.mem_cons, List.not_mem_nil, or_false] at z hq
    omega)))
  obtain ⟨k, k1, k2, k3, k4, k5⟩ := m_layCodes (f := setC g 36 T) (ww := ww) (x := wtN f d) (day := nI d) hi.n0 h9 (fun s hs => by
    rw [hi.tw s (by omega), gg 38 (by decide)]
    exact hTW.1 s hs) (fun s hs => by
    rw [gg 54 (by decide), gg 51 (by decide), gg 52 (by decide), h.1.2.1.2.2.2.2.1, h.1.2.1.2.1, h.1.2.1.2.2.1]
    exact hx s)
  have hld : LD2 (ldS (wtN f d) (ixB ww n) n) (cx (usd ww n) 36) (am_up (am_up k 75 0 0) 76 0 0) := fun g' p q => k5 g' (by rw [p, am_up_ne (by decide), am_up_ne (by decide)]) (by rw [q, am_up_ne (by decide), am_up_ne (by decide)])
  obtain ⟨m, m1, m2⟩ := m_roEnd (what := a3) (hL (ixB ww n)) hb (show cx (usd ww n) 36 ≤ 9 by omega) (by rw [am_up_ne (by decide), am_up_ne (by decide)]; exact k4) hld (by rw [am_up_ne (by decide), am_up_same]) (am_up_same _ _ _ _)
  have hRB := RB_perm (b := b) (hL (ixA ww n)) (hL (ixB ww n)) (show cx (fst1 ww) n ≤ 9 by omega) (show cx (usd ww n) 36 ≤ 9 by omega) ixA_ixB (fun i hi => ixA_surj hi) (fun i hi => ixB_surj hi) (fun s hs => ixA_lt hs) (fun s hs => ixB_lt hs (hTW.1 s hs).2)
  rw [← hRB] at m1
  have e4g : (!decide (setC g 36 T 37 4 < 0)) = true := by rw [gg 37 (by decide)]; exact e4
  refine OP.ask hi (h := m) (r := roV a3 (RB b (ldS (wtN f d) (ixA ww n) n) (2 ^ cx (fst1 ww) n - 1))) ?_ ?_ ag (AgR.of (fun q hq => ?_) (fun j hj => ?_))
  · rw [eX8_rounds_1, c_isDay, am_cal_some, e1, bi_t, if_neg one_ne, c_within', am_cal_some, e2, bi_t, if_neg one_ne, c_within', am_cal_some, e3, bi_t, if_neg one_ne, c_isGiven, am_cal_some, e4, bi_t, if_neg one_ne, g1, am_cal_some, t1, am_cal_some]
    cases hR : RB b (ldS (wtN f d) (ixA ww n) n) (2 ^ cx (fst1 ww) n - 1) with
    | none => rw [encR_none, if_neg (by decide)]; rfl
    | some z =>
      have h5 := pow9 (show cx (fst1 ww) n ≤ 9 by omega)
      have h6 := Nat.two_pow_pos (cx (fst1 ww) n)
      have hz := RB_lt (hL (ixA ww n)) (show 2 ^ cx (fst1 ww) n - 1 < 512 by omega) hR
      have q1 : nI z / 1000000 = nI (z / 1000000) := pk_div (d := 1000000) (by omega) (by decide) (by decide)
      have q2 : nI z - nI (z / 1000000) * 1000000 = nI (z % 1000000) := by
        rw [← q1]
        exact pk_rem (d := 1000000) (by omega) (by decide) (by decide)
      rw [encR_some, if_pos (show nI z < (100000000 : Int32) from nI_lt (b := 100000000) (by omega) (by decide)), am_dv_ne (by decide), am_dv_ne (by decide), q1, q2]
      unfold roV
      by_cases ha : a3 = 0
      · simp only [ha, if_true]
      · simp only [ha, if_false]
  · rw [eX9_rounds_50, m_isDay, am_cal_some, e1, bi_t, if_neg one_ne, m_in' _ _ 1 1000000 (by decide) (by decide), am_cal_some, e2, bi_t, if_neg one_ne, m_in' _ _ 0 1 (by decide) (by decide), am_cal_some, e3, bi_t, if_neg one_ne, hi.areGiven, am_cal_some, e4g, bi_t, if_neg one_ne, k1, am_cal_some]
    have z1 : ∀ (c : Hp → Option Rs), am_ast k 75 512 0 0 c = c (am_up k 75 0 0) := fun c => am_ast_in (j := 0) _ _ _ c (by decide) (by decide)
    have z2 : ∀ (k' : Hp) (c : Hp → Option Rs), am_ast k' 76 512 0 0 c = c (am_up k' 76 0 0) := fun k' c => am_ast_in (j := 0) _ _ _ c (by decide) (by decide)
    rw [z1, z2, m1]
  · simp only [List.mem_cons, List.not_mem_nil, or_false, not_or] at hq
    rw [m2 q (by omega) (by omega), am_up_ne (by omega), am_up_ne (by omega), k2 q (by omega) (by omega) (by omega)]
  · simp only [List.mem_cons, List.not_mem_nil, or_false, not_or] at hj
    rw [m2 50 (by decide) (by decide), am_up_ne (by decide), am_up_ne (by decide), k3 j (by omega)]
/-- the first of k, k + 1, .. that has p -/
def fsI (p : Nat → Bool) : Nat → Nat → Int32
  | 0, _ => -4
  | d + 1, k => if p k then nI k else fsI p d (k + 1)
theorem c_fullL (h : Iv n lk ln c mr t kc f) {S : Nat} (hS : S < 512) (a2 mo : Int32) : ∀ d k, k + d = 41 → am_run 99 53 [.ref 1, .null, .int a2, .int (nI S), .int mo, .int (nI k)] [] f = some (fsI (fun k => decide (mo < dSum (f 3) (f 4) n S (a2 + 365 * nI k))) d k, f) := by
  intro d
  induction d with
  | zero =>
    intro k hk
    have : k = 41 := by omega
    subst this
    rw [eX8_fullYear_53_1, if_pos (by decide)]; rfl
  | succ d ih =>
    intro k hk
    rw [eX8_fullYear_53_1, if_neg (show ¬ (40 : Int32) < nI k from nI_nlt (b := k) (a := 40) (by omega) (by decide)), c_doorsOf h.n7 h.n9 (by omega), am_cal_some, nI_1, ih (k + 1) (by omega), fsI]
    by_cases e : mo < dSum (f 3) (f 4) n S (a2 + 365 * nI k)
    · rw [if_pos e, decide_eq_true e]; rfl
    · rw [if_neg e, decide_eq_false e]; rfl
theorem m_fullL (h : Iv n lk ln c mr t kc f) {s : Nat} (hs : s < n) (hw : f 38 s ≠ -1) (a2 : Int32) : ∀ d k, k + d = 41 → am_run 179 31 [.ref 50, .int (nI s), .int a2, .int (nI k)] [] f = some (fsI (fun k => decide (vO f c 0 a2 < dSum (f 3) (f 4) n (wSet (f 38) (f 38 s) 9) (a2 + 365 * nI k))) d k, f) := by
  have h9 := h.n9
  have hS : wSet (f 38) (f 38 s) 9 < 512 := wSet_lt _ _ 9
  intro d
  induction d with
  | zero =>
    intro k hk
    have : k = 41 := by omega
    subst this
    rw [eX9_fullYear_31_50, if_pos (by decide)]; rfl
  | succ d ih =>
    intro k hk
    rw [eX9_fullYear_31_50, if_neg (show ¬ (40 : Int32) < nI k from nI_nlt (b := k) (a := 40) (by omega) (by decide)), am_ald_in _ _ _ (show s < 27 by omega) (by decide), h.tw s (by omega), m_codeOf h.n0 h.n9, am_cal_some, h.cod hw, m_doorsIn h.n0 h.n9 (by omega), am_cal_some, h.m_val, am_cal_some, h.1.2.1.2.1, h.1.2.1.2.2.1, nI_1, ih (k + 1) (by omega), fsI]
    by_cases e : vO f c 0 a2 < dSum (f 3) (f 4) n (wSet (f 38) (f 38 s) 9) (a2 + 365 * nI k)
    · rw [if_pos e, decide_eq_true e]; rfl
    · rw [if_neg e, decide_eq_false e]; rfl
/-- a side has a word if codes are given, none if not -/
theorem Iv.w0 (h : Iv n lk ln c mr t kc f) {s : Nat} (hs : s < n) : decide (f 38 s < 0) = decide (f 37 4 < 0) := by
  have h9 := h.n9
  rcases h.gv with ⟨e, hb⟩ | ⟨e, ww, ed, d, hg⟩
  · rw [decide_eq_true e, hb.1 s (by omega)]; rfl
  · obtain ⟨s1, s2⟩ := hg.2.1.1 s hs
    have s1 : f 38 s = nI (ww s) := s1
    rw [decide_eq_false e, s1, decide_eq_false (nI_pos (by omega))]
theorem op_fullYear (h : Iv n lk ln c mr t kc f) (a1 a2 : Int32) : OP 99 179 [.int a1, .int a2] f := by
  by_cases e1 : wi a1 0 (nI n - 1) = true
  case neg =>
    have e1 : wi a1 0 (nI n - 1) = false := by simpa using e1
    exact OP.same h (r := -1) (by rw [eX8_fullYear_1, c_isSide, h.n7, am_cal_some, e1, bi_f, if_pos rfl]) (by rw [eX9_fullYear_50, m_isSide, h.n0, am_cal_some, e1, bi_f, if_pos rfl])
  by_cases e2 : wi a2 0 14600 = true
  case neg =>
    have e2 : wi a2 0 14600 = false := by simpa using e2
    exact OP.same h (r := -1) (by rw [eX8_fullYear_1, c_isSide, h.n7, am_cal_some, e1, bi_t, if_neg one_ne, c_isDay, am_cal_some, e2, bi_f, if_pos rfl]) (by rw [eX9_fullYear_50, m_isSide, h.n0, am_cal_some, e1, bi_t, if_neg one_ne, m_isDay, am_cal_some, e2, bi_f, if_pos rfl])
  obtain ⟨s, hs, rfl⟩ := wi_side h.n9 e1
  have h9 := h.n9
  have e3 := h.w0 hs
  by_cases e4 : f 38 s < 0
  · have e5 : f 37 4 < 0 := by rw [decide_eq_true e4] at e3; exact of_decide_eq_true e3.symm
    refine OP.same h (r := -2) ?_ ?_
    · rw [eX8_fullYear_1, c_isSide, h.n7, am_cal_some, e1, bi_t, if_neg one_ne, c_isDay, am_cal_some, e2, bi_t, if_neg one_ne, c_isGiven, am_cal_some, decide_eq_true e5, Bool.not_true, bi_f, if_pos rfl]
    · rw [eX9_fullYear_50, m_isSide, h.n0, am_cal_some, e1, bi_t, if_neg one_ne, m_isDay, am_cal_some, e2, bi_t, if_neg one_ne, am_ald_in _ _ _ (show s < 27 by omega) (by decide), h.tw s (by omega), if_pos e4]
  · have e5 : ¬ f 37 4 < 0 := by rw [decide_eq_false e4] at e3; exact of_decide_eq_false e3.symm
    have e6 : f 38 s ≠ -1 := fun z => e4 (by rw [z]; decide)
    have k1 : am_run 99 53 [.ref 1, .null, .int a2, .int (nI (wSet (f 38) (f 38 s) 9)), .int (vO f c 0 a2), .int 0] [] f = _ := c_fullL h (wSet_lt _ _ 9) a2 (vO f c 0 a2) 41 0 (by omega)
    have k2 : am_run 179 31 [.ref 50, .int (nI s), .int a2, .int 0] [] f = _ := m_fullL h hs e6 a2 41 0 (by omega)
    refine OP.same h (r := fsI (fun k => decide (vO f c 0 a2 < dSum (f 3) (f 4) n (wSet (f 38) (f 38 s) 9) (a2 + 365 * nI k))) 41 0) ?_ ?_
    · rw [eX8_fullYear_1, c_isSide, h.n7, am_cal_some, e1, bi_t, if_neg one_ne, c_isDay, am_cal_some, e2, bi_t, if_neg one_ne, c_isGiven, am_cal_some, decide_eq_false e5, Bool.not_false, bi_t, if_neg one_ne, c_codeOf (by omega), if_neg e4, am_cal_some, h.c_val, am_cal_some, k1]
    · rw [eX9_fullYear_50, m_isSide, h.n0, am_cal_some, e1, bi_t, if_neg one_ne, m_isDay, am_cal_some, e2, bi_t, if_neg one_ne, am_ald_in _ _ _ (show s < 27 by omega) (by decide), h.tw s (by omega), if_neg e4, k2]
theorem wi_ed {a : Int32} {e : Nat} (h9 : e ≤ 10) (h : wi a 0 (nI e - 1) = true) : ∃ s, s < e ∧ a = nI s := by
  cases e with
  | zero =>
    unfold wi at h
    simp only [Bool.and_eq_true, decide_eq_true_eq] at h
    have h1 := (fa_le _ _).mp h.1
    have h2 := (fa_le _ _).mp h.2
    have e1 : (0 : Int32).toInt = 0 := rfl
    have e2 : (nI 0 - 1 : Int32).toInt = -1 := by decide
    omega
  | succ m =>
    rw [nI_pred] at h
    obtain ⟨s, -, s2, s3⟩ := wi_nat (lo := 0) (hi := m) (by omega) (by omega) h
    exact ⟨s, by omega, s3⟩
/-- an edition of a given town -/
theorem Iv.edn (h : Iv n lk ln c mr t kc f) {a : Int32} (e : wi a 0 (f 37 3 - 1) = true) : ∃ i ed, i < ed ∧ ed ≤ 10 ∧ a = nI i ∧ f 37 3 = nI ed ∧ ∀ s, s < n → ∃ v, v < 36 ∧ f 40 (i * 9 + s) = nI v := by
  rcases h.gv with ⟨-, hb⟩ | ⟨-, ww, ed, d, hg⟩
  · rw [hb.2.1] at e
    obtain ⟨i, hi, -⟩ := wi_ed (e := 0) (by omega) e
    omega
  · have he : f 37 3 = nI ed := hg.2.2.1
    rw [he] at e
    obtain ⟨i, hi, rfl⟩ := wi_ed hg.2.2.2.1 e
    exact ⟨i, ed, hi, hg.2.2.2.1, rfl, he, fun s hs => hg.2.2.2.2.2.2.2 i s hi hs⟩
theorem op_book (h : Iv n lk ln c mr t kc f) (a1 a2 : Int32) : OP 101 181 [.int a1, .int a2] f := by
  by_cases e1 : wi a1 0 (f 37 3 - 1) = true
  case neg =>
    have e1 : wi a1 0 (f 37 3 - 1) = false := by simpa using e1
    exact OP.same h (r := -1) (by rw [eX8_book_1, c_isEdition, am_cal_some, e1, bi_f, if_pos rfl]) (by rw [eX9_book_50, ald_0 _ _ _ (by decide) (by decide), h.te, m_in' _ _ 0 (f 37 3 - 1) (by decide) rfl, am_cal_some, e1, bi_f, if_pos rfl])
  by_cases e2 : wi a2 0 (nI n - 1) = true
  case neg =>
    have e2 : wi a2 0 (nI n - 1) = false := by simpa using e2
    exact OP.same h (r := -1) (by rw [eX8_book_1, c_isEdition, am_cal_some, e1, bi_t, if_neg one_ne, c_isSide, h.n7, am_cal_some, e2, bi_f, if_pos rfl]) (by rw [eX9_book_50, ald_0 _ _ _ (by decide) (by decide), h.te, m_in' _ _ 0 (f 37 3 - 1) (by decide) rfl, am_cal_some, e1, bi_t, if_neg one_ne, m_isSide, h.n0, am_cal_some, e2, bi_f, if_pos rfl])
  obtain ⟨i, ed, hi, hed, rfl, -, hv⟩ := h.edn e1
  obtain ⟨s, hs, rfl⟩ := wi_side h.n9 e2
  have h9 := h.n9
  obtain ⟨v, v1, v2⟩ := hv s hs
  refine OP.same h (r := nI v) ?_ ?_
  · rw [eX8_book_1, c_isEdition, am_cal_some, e1, bi_t, if_neg one_ne, c_isSide, h.n7, am_cal_some, e2, bi_t, if_neg one_ne, eX6_printed_37, idx9, am_ald_in _ _ _ (show i * 9 + s < 90 by omega) (by decide), v2, am_cal_some]
  · rw [eX9_book_50, ald_0 _ _ _ (by decide) (by decide), h.te, m_in' _ _ 0 (f 37 3 - 1) (by decide) rfl, am_cal_some, e1, bi_t, if_neg one_ne, m_isSide, h.n0, am_cal_some, e2, bi_t, if_neg one_ne, idx9', am_ald_in _ _ _ (show 9 * i + s < 270 by omega) (by decide), h.tb _ (by omega), Nat.mul_comm 9 i, v2, if_neg (nI_pos (by omega))]
end Ops2

