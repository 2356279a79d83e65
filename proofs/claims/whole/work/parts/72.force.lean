section Force
variable {X : Nat → Int32}
theorem m_readL {t : Nat} : ∀ F p m g, t < p + F → p ≤ t → 5 * m ≤ p → TM X t g → g 57 0 = nI m → g 50 18 = nI p → ∃ g', am_run 137 12 [.ref 50, .null, .null] [] g = some (enc (-4) (pF X t F p).2, g') ∧ (∀ q, q ∉ [50, 57, 58] → g' q = g q) ∧ (∀ j, j ∉ [18, 19, 20] → g' 50 j = g 50 j) ∧ (∀ j, j ≠ 0 → g' 57 j = g 57 j) ∧ g' 57 0 = nI (m + (pF X t F p).1.length) ∧ (∀ j, 150 ≤ j → g' 58 j = g 58 j) ∧ (∀ j, j < 3 * m → g' 58 j = g 58 j) ∧ ∀ i, i < (pF X t F p).1.length → g' 58 (3 * (m + i)) = ((pF X t F p).1.getD i (0, 0, 0)).1 ∧ g' 58 (3 * (m + i) + 1) = nI ((pF X t F p).1.getD i (0, 0, 0)).2.1 ∧ g' 58 (3 * (m + i) + 2) = nI ((pF X t F p).1.getD i (0, 0, 0)).2.2 := by
  intro F
  induction F with
  | zero => intro p m g h1 h2; omega
  | succ F ih =>
    intro p m g h1 h2 h5 hx hm hc
    have ht := hx.2.1
    by_cases e : p < t
    · obtain ⟨H, k1, k2, k3, k4⟩ := m_itemN hx e hc
      cases hi : itO X t p with
      | none =>
        rw [hi] at k1
        rw [pF_none e hi]
        refine ⟨H, ?_, fun q hq => k2 q (fun z => hq (by rw [z]; decide)), k3, fun j _ => by rw [k2 57 (by decide)], by rw [k2 57 (by decide)]; exact hm, fun j _ => by rw [k2 58 (by decide)], fun j _ => by rw [k2 58 (by decide)], fun i hi => absurd hi (Nat.not_lt_zero _)⟩
        rw [eX9_readAll_12_50, hc, hx.1, if_pos (nI_lt e (by omega)), k1, am_cal_some]
        rfl
      | some z =>
        obtain ⟨a, b, en⟩ := z
        obtain ⟨b1, b2, b3, b4, b5⟩ := itO_some hi
        rw [hi] at k1
        obtain ⟨l1, l2, l3⟩ := k4 _ hi
        have l1 : H 50 18 = nI en := l1
        have l2 : H 50 19 = nI a := l2
        have l3 : H 50 20 = nI b := l3
        have m3 : 3 * nI m = nI (3 * m) := pk_mul 3 m
        have m31 : nI (3 * m) + 1 = nI (3 * m + 1) := nI_1 _
        have m32 : nI (3 * m) + 2 = nI (3 * m + 2) := nI_add _ 2
        have h57 : H 57 0 = nI m := by rw [k2 57 (by decide)]; exact hm
        have h56 : H 56 p = X p := by rw [k2 56 (by decide)]; exact hx.2.2 p e
        have z57 : ∀ (k : Hp) (x : Int32) (c : Hp → Option Rs), am_ast k 57 2 0 x c = c (am_up k 57 0 x) := fun k x c => am_ast_in (j := 0) _ _ _ c (by decide) (by decide)
        have hG : ∀ q, q ∉ [57, 58] → am_up (am_up (am_up (am_up H 58 (3 * m) (X p)) 58 (3 * m + 1) (nI a)) 58 (3 * m + 2) (nI b)) 57 0 (nI (m + 1)) q = H q := fun q hq => by
          simp only [List.mem_cons, List.not_mem_nil, or_false, not_or] at hq
          rw [am_up_ne hq.1, am_up_ne hq.2, am_up_ne hq.2, am_up_ne hq.2]
        have hrun : am_run 137 12 [.ref 50, .null, .null] [] g = am_run 137 12 [.ref 50, .null, .null] [] (am_up (am_up (am_up (am_up H 58 (3 * m) (X p)) 58 (3 * m + 1) (nI a)) 58 (3 * m + 2) (nI b)) 57 0 (nI (m + 1))) := by
          rw [eX9_readAll_12_50, hc, hx.1, if_pos (nI_lt e (by omega)), k1, am_cal_some, if_neg (show ¬ bi (some (a, b, en)).isSome = 0 from one_ne), ald_0 _ _ _ (by decide) (by decide), am_ald_in _ _ _ (show p < 200 by omega) (by decide), h57, h56, m3, am_ast_in _ _ _ _ (show 3 * m < 300 by omega) (by decide), m31, am_up_ne (show 50 ≠ 58 by decide), l2, am_ast_in _ _ _ _ (show 3 * m + 1 < 300 by omega) (by decide), m32, am_up_ne (show 50 ≠ 58 by decide), am_up_ne (show 50 ≠ 58 by decide), l3, am_ast_in _ _ _ _ (show 3 * m + 2 < 300 by omega) (by decide), ald_0 _ _ _ (by decide) (by decide), am_up_ne (show 57 ≠ 58 by decide), am_up_ne (show 57 ≠ 58 by decide), am_up_ne (show 57 ≠ 58 by decide), h57, nI_1, z57]
        have h58 : am_up (am_up (am_up (am_up H 58 (3 * m) (X p)) 58 (3 * m + 1) (nI a)) 58 (3 * m + 2) (nI b)) 57 0 (nI (m + 1)) 58 = upd (upd (upd (g 58) (3 * m) (X p)) (3 * m + 1) (nI a)) (3 * m + 2) (nI b) := by rw [am_up_ne (by decide), am_up_eq, am_up_eq, am_up_eq, k2 58 (by decide)]
        have h570 : am_up (am_up (am_up (am_up H 58 (3 * m) (X p)) 58 (3 * m + 1) (nI a)) 58 (3 * m + 2) (nI b)) 57 0 (nI (m + 1)) 57 0 = nI (m + 1) := am_up_same _ _ _ _
        have h57j : ∀ j, j ≠ 0 → am_up (am_up (am_up (am_up H 58 (3 * m) (X p)) 58 (3 * m + 1) (nI a)) 58 (3 * m + 2) (nI b)) 57 0 (nI (m + 1)) 57 j = g 57 j := fun j hj => by rw [am_up_j hj, am_up_ne (by decide), am_up_ne (by decide), am_up_ne (by decide), k2 57 (by decide)]
        generalize am_up (am_up (am_up (am_up H 58 (3 * m) (X p)) 58 (3 * m + 1) (nI a)) 58 (3 * m + 2) (nI b)) 57 0 (nI (m + 1)) = G at hG hrun h58 h570 h57j
        have hx' : TM X t G := by
          unfold TM
          rw [hG 50 (by decide), k3 6 (by decide), hG 56 (by decide), k2 56 (by decide)]
          exact hx
        obtain ⟨g', i1, i2, i3, i4, i5, i6, i7, i8⟩ := ih en (m + 1) G (by omega) b4 (by omega) hx' h570 (by rw [hG 50 (by decide)]; exact l1)
        rw [pF_some e hi]
        refine ⟨g', by rw [hrun, i1], fun q hq => ?_, fun j hj => by rw [i3 j hj, hG 50 (by decide), k3 j hj], fun j hj => by rw [i4 j hj, h57j j hj], by rw [i5]; congr 1; simp only [List.length_cons]; omega, fun j hj => ?_, fun j hj => ?_, fun i hi' => ?_⟩
        · simp only [List.mem_cons, List.not_mem_nil, or_false, not_or] at hq
          rw [i2 q (by simp only [List.mem_cons, List.not_mem_nil, or_false]; omega), hG q (by simp only [List.mem_cons, List.not_mem_nil, or_false]; omega), k2 q hq.1]
        · rw [i6 j hj, h58, upd_ne (by omega), upd_ne (by omega), upd_ne (by omega)]
        · rw [i7 j (by omega), h58, upd_ne (by omega), upd_ne (by omega), upd_ne (by omega)]
        · cases i with
          | zero =>
            rw [Nat.add_zero, i7 _ (by omega), i7 _ (by omega), i7 _ (by omega), h58]
            refine ⟨?_, ?_, ?_⟩
            · rw [upd_ne (by omega), upd_ne (by omega), upd_same]; rfl
            · rw [upd_ne (by omega), upd_same]; rfl
            · rw [upd_same]; rfl
          | succ i =>
            have := i8 i (by simpa using hi')
            rw [show m + (i + 1) = m + 1 + i by omega]
            exact this
    · rw [pF_end e]
      refine ⟨g, ?_, fun _ _ => rfl, fun _ _ => rfl, fun _ _ => rfl, hm, fun _ _ => rfl, fun _ _ => rfl, fun i hi => absurd hi (Nat.not_lt_zero _)⟩
      rw [eX9_readAll_12_50, hc, hx.1, if_neg (nI_nlt (by omega) (by omega))]
      rfl
variable {n : Nat} {lk ln : Nat → Nat} {c : Nat} {mr : Nat → Nat} {t kc : Nat} {f g : Hp}
/-- what both read of the text -/
noncomputable def rdT (t : Nat) (f : Hp) : List (Int32 × Nat × Nat) × Option Nat := pF (f 56) t (t + 1) 0
theorem Iv.c_rd (h : Iv n lk ln c mr t kc f) : ∃ G, am_call 2 [.ref 12, .ref 10] f = some (enc (-1) (rdT t f).2, G) ∧ (∀ q, q ∉ [12, 13, 14, 15] → G q = f q) ∧ G 12 3 = nI (rdT t f).1.length ∧ ∀ i, i < (rdT t f).1.length → G 13 i = ((rdT t f).1.getD i (0, 0, 0)).1 ∧ G 14 i = nI ((rdT t f).1.getD i (0, 0, 0)).2.1 ∧ G 15 i = nI ((rdT t f).1.getD i (0, 0, 0)).2.2 := by
  have hx : TX (f 56) t (am_up f 12 3 0) := by
    unfold TX
    rw [am_up_ne (by decide), am_up_ne (by decide)]
    exact ⟨h.2.2.1.1, h.2.2.1.2.1, fun j hj => (h.2.2.1.2.2.2 j hj).symm⟩
  obtain ⟨G, g1, g2, g3, g4, g5⟩ := c_readL (X := f 56) (t := t) (t + 1) 0 0 (am_up f 12 3 0) (by omega) (by omega) (by omega) hx (am_up_same _ _ _ _)
  have g1 : am_run 2 7 [.ref 12, .ref 10, .int 0, .null] [] (am_up f 12 3 0) = _ := g1
  refine ⟨G, by rw [eX0_readFrom_12_10, g1]; rfl, fun q hq => by rw [g2 q hq, am_up_ne (fun z => hq (by rw [z]; decide))], by rw [g3, Nat.zero_add]; rfl, fun i hi => ?_⟩
  have := g5 i hi
  rw [Nat.zero_add] at this
  exact this
theorem Iv.m_rd (h : Iv n lk ln c mr t kc f) : ∃ H, am_call 137 [.ref 50] f = some (enc (-4) (rdT t f).2, H) ∧ AgR f H ∧ (∀ q, q ∉ [50, 57, 58] → H q = f q) ∧ (∀ j, j ∉ [18, 19, 20] → H 50 j = f 50 j) ∧ H 57 0 = nI (rdT t f).1.length ∧ ∀ i, i < (rdT t f).1.length → H 58 (3 * i) = ((rdT t f).1.getD i (0, 0, 0)).1 ∧ H 58 (3 * i + 1) = nI ((rdT t f).1.getD i (0, 0, 0)).2.1 ∧ H 58 (3 * i + 2) = nI ((rdT t f).1.getD i (0, 0, 0)).2.2 := by
  have z57 : ∀ (k : Hp) (x : Int32) (c : Hp → Option Rs), am_ast k 57 2 0 x c = c (am_up k 57 0 x) := fun k x c => am_ast_in (j := 0) _ _ _ c (by decide) (by decide)
  have hx : TM (f 56) t (am_up (am_up f 57 0 0) 50 18 0) := by
    unfold TM
    rw [am_up_j (by decide), am_up_ne (by decide), am_up_ne (by decide), am_up_ne (by decide)]
    exact ⟨h.2.2.1.2.2.1, h.2.2.1.2.1, fun j hj => rfl⟩
  obtain ⟨H, g1, g2, g3, g4, g5, g6, g7, g8⟩ := m_readL (X := f 56) (t := t) (t + 1) 0 0 (am_up (am_up f 57 0 0) 50 18 0) (by omega) (by omega) (by omega) hx (by rw [am_up_ne (by decide), am_up_same]; rfl) (am_up_same _ _ _ _)
  have e2 : ∀ q, q ∉ [50, 57, 58] → H q = f q := fun q hq => by
    rw [g2 q hq]
    simp only [List.mem_cons, List.not_mem_nil, or_false, not_or] at hq
    rw [am_up_ne hq.1, am_up_ne hq.2.1]
  have e3 : ∀ j, j ∉ [18, 19, 20] → H 50 j = f 50 j := fun j hj => by
    rw [g3 j hj, am_up_j (fun z => hj (by rw [z]; decide)), am_up_ne (by decide)]
  refine ⟨H, by rw [eX9_readAll_50, z57, g1]; rfl, ⟨fun q hq => e2 q (by simp only [List.mem_cons, List.not_mem_nil, or_false]; omega), e2 77 (by decide), e3 0 (by decide), e3 6 (by decide), e3 16 (by decide), fun q h1 h2 h3 h4 => e2 q (by simp only [List.mem_cons, List.not_mem_nil, or_false]; omega), ?_, fun j hj => ?_⟩, e2, e3, by rw [g5, Nat.zero_add]; rfl, fun i hi => ?_⟩
  · rw [g4 1 (by decide), am_up_ne (by decide), am_up_j (by decide)]
  · rw [g6 j hj, am_up_ne (by decide), am_up_ne (by decide)]
  · have := g8 i hi
    rw [Nat.zero_add] at this
    exact this
theorem rdT_ok (ht : t ≤ 200) : (rdT t f).1.length ≤ 40 ∧ (∀ i, i < (rdT t f).1.length → iiB ((rdT t f).1.getD i (0, 0, 0)).1 ((rdT t f).1.getD i (0, 0, 0)).2.1 ((rdT t f).1.getD i (0, 0, 0)).2.2 = true ∧ ((rdT t f).1.getD i (0, 0, 0)).2.1 < 100000 ∧ ((rdT t f).1.getD i (0, 0, 0)).2.2 < 100000) ∧ ∀ q, (rdT t f).2 = some q → q < t := by
  obtain ⟨a, b, c⟩ := pF_ok (X := f 56) (t := t) (t + 1) 0 (by omega) (by omega) ht 0 (by omega)
  exact ⟨by unfold rdT; omega, b, c⟩
theorem rdT_congr (h : g 56 = f 56) : rdT t g = rdT t f := by unfold rdT; rw [h]
theorem iiB_v {l : Int32} {a b : Nat} (h : iiB l a b = true) (ha : a < 100000) (hb : b < 100000) : vIt l (nI a) (nI b) := by
  refine ⟨a, b, rfl, rfl, ha, hb, fun e => ?_, fun e => ?_⟩
  · subst e
    unfold iiB at h
    rw [if_neg (by decide), if_pos rfl] at h
    simp only [Bool.and_eq_true, decide_eq_true_eq] at h
    omega
  · rcases e with e | e
    · subst e
      unfold iiB at h
      rw [if_neg (by decide), if_neg (by decide), if_neg (by decide), if_pos (Or.inl rfl)] at h
      simp only [Bool.and_eq_true, decide_eq_true_eq] at h
      omega
    · subst e
      unfold iiB at h
      rw [if_neg (by decide), if_neg (by decide), if_neg (by decide), if_pos (Or.inr rfl)] at h
      simp only [Bool.and_eq_true, decide_eq_true_eq] at h
      omega
theorem c_rdAg (h : Iv n lk ln c mr t kc f) {G : Hp} (hG : ∀ q, q ∉ [12, 13, 14, 15] → G q = f q) : AgC f G ∧ Iv n lk ln c mr t kc G := by
  have ag : AgC f G := AgC.of (fun q hq => hG q (fun z => hq (by
    simp only [List.mem_cons, List.not_mem_nil, or_false] at z ⊢
    omega))) (fun j _ => by rw [hG 2 (by decide)])
  exact ⟨ag, h.cls ag (h.C.keep (by rw [hG 2 (by decide)]) (fun q hq => hG q (fun z => by
    simp only [List.mem_cons, List.not_mem_nil, or_false] at z hq
    omega)))⟩
theorem op_fault (h : Iv n lk ln c mr t kc f) : OP 75 138 [] f := by
  obtain ⟨G, g1, g2, -⟩ := h.c_rd
  obtain ⟨ag, hi⟩ := c_rdAg h g2
  obtain ⟨H, h1, h2, -⟩ := hi.m_rd
  rw [rdT_congr (g2 56 (by decide))] at h1
  have ht := h.2.2.1.2.1
  refine OP.ask hi (h := H) (r := enc (-4) (rdT t f).2) ?_ ?_ ag h2
  · show am_call 75 [.ref 1] f = _
    rw [eX8_fault_1, g1, am_cal_some]
    cases hq : (rdT t f).2 with
    | none => rw [enc_none, if_pos (by decide), enc_none]
    | some q =>
      have := (rdT_ok (f := f) ht).2.2 q hq
      rw [enc_some, if_neg (nI_pos (by omega)), enc_some]
  · show am_call 138 [.ref 50] G = _
    rw [eX9_fault_50, h1, am_cal_some]
theorem m_fcL (g : Hp) (T0 : Nat → Int32) : ∀ d k T, k + d = 150 → (∀ j, j < 150 → T j = T0 j) → (∀ i, i < k → T (150 + i) = T0 i) → ∃ T', am_run 139 26 [.ref 50, .int (nI k)] [] (setC g 58 T) = some (g 57 1, setC g 58 T') ∧ ∀ i, i < 150 → T' (150 + i) = T0 i := by
  intro d
  induction d with
  | zero =>
    intro k T hk h1 h2
    have : k = 150 := by omega
    subst this
    refine ⟨T, ?_, h2⟩
    rw [eX9_force_26_50, if_neg (by decide), ald_1 _ _ _ (by decide) (by decide), setC_ne (by decide)]
  | succ d ih =>
    intro k T hk h1 h2
    have e1 : 150 + nI k = nI (150 + k) := nI_add 150 k
    rw [eX9_force_26_50, if_pos (show nI k < (150 : Int32) from nI_lt (b := 150) (by omega) (by decide)), am_ald_in _ _ _ (show k < 300 by omega) (by decide), e1, am_ast_in _ _ _ _ (show 150 + k < 300 by omega) (by decide), setC_eq, up_setC, nI_1, h1 k (by omega)]
    refine ih (k + 1) _ (by omega) (fun j hj => by rw [upd_ne (by omega)]; exact h1 j hj) (fun i hi => ?_)
    by_cases e : i = k
    · subst e; rw [upd_same]
    · rw [upd_ne (by omega)]; exact h2 i (by omega)
theorem op_force (h : Iv n lk ln c mr t kc f) : OP 76 139 [] f := by
  have ht := h.2.2.1.2.1
  obtain ⟨r1, r2, r3⟩ := rdT_ok (t := t) (f := f) ht
  obtain ⟨G, g1, g2, g3, g4⟩ := h.c_rd
  obtain ⟨ag, hi⟩ := c_rdAg h g2
  cases hq : (rdT t f).2 with
  | some q =>
    obtain ⟨H, h1, h2, -⟩ := hi.m_rd
    rw [rdT_congr (g2 56 (by decide))] at h1
    have hqt := r3 q hq
    rw [hq] at g1 h1
    refine OP.ask hi (h := H) (r := -2) ?_ ?_ ag h2
    · show am_call 76 [.ref 1] f = _
      rw [eX8_force_1, g1, am_cal_some, enc_some, if_neg (nI_pos (by omega))]
    · show am_call 139 [.ref 50] G = _
      rw [eX9_force_50, h1, am_cal_some, enc_some, if_neg (enc4_ne (by omega))]
  | none =>
    rw [hq] at g1
    have p1 : ∀ (f : Hp) (c : Hp → Option Rs), am_cp f 13 17 40 40 0 0 40 c = c (setC f 17 (va_cpy (f 13) (f 17) 0 0 40)) := fun f c => am_cp_in (sp := 0) (dp := 0) (m := 40) f 13 17 c (by decide) (by decide) (by decide) (by decide)
    have p2 : ∀ (f : Hp) (c : Hp → Option Rs), am_cp f 14 18 40 40 0 0 40 c = c (setC f 18 (va_cpy (f 14) (f 18) 0 0 40)) := fun f c => am_cp_in (sp := 0) (dp := 0) (m := 40) f 14 18 c (by decide) (by decide) (by decide) (by decide)
    have p3 : ∀ (f : Hp) (c : Hp → Option Rs), am_cp f 15 19 40 40 0 0 40 c = c (setC f 19 (va_cpy (f 15) (f 19) 0 0 40)) := fun f c => am_cp_in (sp := 0) (dp := 0) (m := 40) f 15 19 c (by decide) (by decide) (by decide) (by decide)
    have hC : ∃ K, am_call 76 [.ref 1] f = some (nI (rdT t f).1.length, K) ∧ (∀ q, q ∉ [12, 13, 14, 15, 16, 17, 18, 19, 22, 27] → K q = f q) ∧ K 16 3 = nI (rdT t f).1.length ∧ (∀ i, i < (rdT t f).1.length → K 17 i = ((rdT t f).1.getD i (0, 0, 0)).1 ∧ K 18 i = nI ((rdT t f).1.getD i (0, 0, 0)).2.1 ∧ K 19 i = nI ((rdT t f).1.getD i (0, 0, 0)).2.2) ∧ K 22 8 = -1 ∧ K 27 12 = -1 := by
      refine ⟨_, by rw [eX8_force_1, g1, am_cal_some, enc_none, if_pos (by decide), eX0_copy_16_12, p1, p2, p3, am_cal_some, c_forget, am_cal_some, am_up_ne (show 16 ≠ 27 by decide), am_up_ne (show 16 ≠ 22 by decide), am_up_same, setC_ne (show 12 ≠ 19 by decide), setC_ne (show 12 ≠ 18 by decide), setC_ne (show 12 ≠ 17 by decide), g3], fun q hq => ?_, ?_, fun i hi => ?_, ?_, am_up_same _ _ _ _⟩
      · simp only [List.mem_cons, List.not_mem_nil, or_false, not_or] at hq
        rw [am_up_ne (by omega), am_up_ne (by omega), am_up_ne (by omega), setC_ne (by omega), setC_ne (by omega), setC_ne (by omega), g2 q (by simp only [List.mem_cons, List.not_mem_nil, or_false]; omega)]
      · rw [am_up_ne (by decide), am_up_ne (by decide), am_up_same]
      · obtain ⟨q1, q2, q3⟩ := g4 i hi
        refine ⟨?_, ?_, ?_⟩
        · rw [am_up_ne (by decide), am_up_ne (by decide), am_up_ne (by decide), setC_ne (by decide), setC_ne (by decide), setC_eq, cpy0 (by omega), q1]
        · rw [am_up_ne (by decide), am_up_ne (by decide), am_up_ne (by decide), setC_ne (by decide), setC_eq, cpy0 (by omega), setC_ne (by decide), q2]
        · rw [am_up_ne (by decide), am_up_ne (by decide), am_up_ne (by decide), setC_eq, cpy0 (by omega), setC_ne (by decide), setC_ne (by decide), q3]
      · rw [am_up_ne (by decide), am_up_same]
    obtain ⟨K, c1, c2, c3, c4, c5, c6⟩ := hC
    -- the reference reads the same text
    have hxK : TM (f 56) t (am_up (am_up K 57 0 0) 50 18 0) := by
      unfold TM
      rw [am_up_j (by decide), am_up_ne (by decide), am_up_ne (by decide), am_up_ne (by decide), c2 50 (by decide), c2 56 (by decide)]
      exact ⟨h.2.2.1.2.2.1, ht, fun j hj => rfl⟩
    have z57 : ∀ (k : Hp) (x : Int32) (c : Hp → Option Rs), am_ast k 57 2 0 x c = c (am_up k 57 0 x) := fun k x c => am_ast_in (j := 0) _ _ _ c (by decide) (by decide)
    have z571 : ∀ (k : Hp) (x : Int32) (c : Hp → Option Rs), am_ast k 57 2 1 x c = c (am_up k 57 1 x) := fun k x c => am_ast_in (j := 1) _ _ _ c (by decide) (by decide)
    obtain ⟨H, i1, i2, i3, i4, i5, i6, i7, i8⟩ := m_readL (X := f 56) (t := t) (t + 1) 0 0 (am_up (am_up K 57 0 0) 50 18 0) (by omega) (by omega) (by omega) hxK (by rw [am_up_ne (by decide), am_up_same]; rfl) (am_up_same _ _ _ _)
    have i1 : am_run 137 12 [.ref 50, .null, .null] [] (am_up (am_up K 57 0 0) 50 18 0) = some (enc (-4) (rdT t f).2, H) := i1
    rw [hq, enc_none] at i1
    have i5 : H 57 0 = nI (rdT t f).1.length := by rw [i5, Nat.zero_add]; rfl
    obtain ⟨T, t1, t2⟩ := m_fcL (am_up H 57 1 (nI (rdT t f).1.length)) (H 58) 150 0 (H 58) (by omega) (fun _ _ => rfl) (fun i hi => absurd hi (Nat.not_lt_zero _))
    have e58 : setC (am_up H 57 1 (nI (rdT t f).1.length)) 58 (H 58) = am_up H 57 1 (nI (rdT t f).1.length) := by
      have := setC_self (am_up H 57 1 (nI (rdT t f).1.length)) 58
      rw [am_up_ne (by decide)] at this
      exact this
    rw [e58, am_up_same] at t1
    have t1 : am_run 139 26 [.ref 50, .int 0] [] (am_up H 57 1 (nI (rdT t f).1.length)) = _ := t1
    have hD : am_call 139 [.ref 50] K = some (nI (rdT t f).1.length, setC (am_up H 57 1 (nI (rdT t f).1.length)) 58 T) := by
      rw [eX9_force_50, eX9_readAll_50, z57, i1, am_cal_some, if_pos rfl, ald_0 _ _ _ (by decide) (by decide), i5, z571, t1]
    have d2 : ∀ q, q ∉ [12, 13, 14, 15, 16, 17, 18, 19, 22, 27, 50, 57, 58] → setC (am_up H 57 1 (nI (rdT t f).1.length)) 58 T q = f q := fun q hq => by
      simp only [List.mem_cons, List.not_mem_nil, or_false, not_or] at hq
      rw [setC_ne (by omega), am_up_ne (by omega), i2 q (by simp only [List.mem_cons, List.not_mem_nil, or_false]; omega), am_up_ne (by omega), am_up_ne (by omega), c2 q (by simp only [List.mem_cons, List.not_mem_nil, or_false]; omega)]
    have dK : ∀ q, q < 50 → setC (am_up H 57 1 (nI (rdT t f).1.length)) 58 T q = K q := fun q hq => by
      rw [setC_ne (by omega), am_up_ne (by omega), i2 q (by simp only [List.mem_cons, List.not_mem_nil, or_false]; omega), am_up_ne (by omega), am_up_ne (by omega)]
    have d50 : ∀ j, j ∉ [18, 19, 20] → setC (am_up H 57 1 (nI (rdT t f).1.length)) 58 T 50 j = f 50 j := fun j hj => by
      rw [setC_ne (by decide), am_up_ne (by decide), i3 j hj, am_up_j (fun z => hj (by rw [z]; decide)), am_up_ne (by decide), c2 50 (by decide)]
    have d57 : setC (am_up H 57 1 (nI (rdT t f).1.length)) 58 T 57 1 = nI (rdT t f).1.length := by rw [setC_ne (by decide), am_up_same]
    have d58 : setC (am_up H 57 1 (nI (rdT t f).1.length)) 58 T 58 = T := setC_eq _ _ _
    have d077 : setC (am_up H 57 1 (nI (rdT t f).1.length)) 58 T 0 = K 0 ∧ setC (am_up H 57 1 (nI (rdT t f).1.length)) 58 T 77 = K 77 := ⟨dK 0 (by decide), by rw [d2 77 (by decide), c2 77 (by decide)]⟩
    generalize setC (am_up H 57 1 (nI (rdT t f).1.length)) 58 T = W at hD d2 dK d50 d57 d58 d077
    refine OP.act (g := K) (h := W) c1 hD ⟨c2 0 (by decide), c2 77 (by decide)⟩ d077 ⟨n, lk, ln, (rdT t f).1.length, mr, t, kc, h.1.keep (by rw [d2 2 (by decide)]) (fun q hq => d2 q (fun z => ?_)) (d50 0 (by decide)), ⟨by rw [dK 16 (by decide)]; exact c3, r1, d57, fun k hk => ?_⟩, h.2.2.1.keep (by rw [d2 10 (by decide)]) (d50 6 (by decide)) (d2 11 (by decide)) (d2 56 (by decide)), h.M.keep (d2 21 (by decide)) (d2 59 (by decide)), h.K.keep (by rw [d2 1 (by decide)]) (d50 16 (by decide)) (fun q hq => d2 q (fun z => ?_)), h.C.1.keep (by rw [d2 2 (by decide)]) (d2 8 (by decide)) (d2 9 (by decide)), by rw [d2 24 (by decide)]; exact h.C.2.1, by rw [d2 36 (by decide)]; exact h.C.2.2.1, fun d hd e => ?_, fun d l hd _ _ e _ => ?_⟩
    · simp only [List.mem_cons, List.not_mem_nil, or_false] at z hq
      omega
    · obtain ⟨q1, q2, q3⟩ := c4 k hk
      obtain ⟨v1, v2, v3⟩ := i8 k hk
      obtain ⟨w1, w2, w3⟩ := r2 k hk
      rw [Nat.zero_add] at v1 v2 v3
      rw [dK 17 (by decide), dK 18 (by decide), dK 19 (by decide), q1, q2, q3, d58, t2 (3 * k) (by omega), show 151 + 3 * k = 150 + (3 * k + 1) by omega, show 152 + 3 * k = 150 + (3 * k + 2) by omega, t2 (3 * k + 1) (by omega), t2 (3 * k + 2) (by omega)]
      exact ⟨v1, v2, v3, iiB_v w1 w2 w3⟩
    · simp only [List.mem_cons, List.not_mem_nil, or_false] at z hq
      omega
    · rw [dK 22 (by decide), c5] at e
      exact absurd e (m1_ne (by omega))
    · rw [dK 27 (by decide), c6] at e
      exact absurd e (m1_ne (by omega))
end Force
