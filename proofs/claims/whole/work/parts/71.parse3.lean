section Parse3
variable {X : Nat → Int32} {t : Nat} {g : Hp}
theorem am_up_up (f : Hp) (q j : Nat) (x y : Int32) : am_up (am_up f q j x) q j y = am_up f q j y := by
  funext a b
  by_cases e : a = q
  · subst e
    by_cases e2 : b = j
    · subst e2; rw [am_up_same, am_up_same]
    · rw [am_up_j e2, am_up_j e2, am_up_j e2]
  · rw [am_up_ne e, am_up_ne e, am_up_ne e]
theorem am_up_self (f : Hp) (q j : Nat) : am_up f q j (f q j) = f := by
  funext a b
  by_cases e : a = q
  · subst e
    by_cases e2 : b = j
    · subst e2; rw [am_up_same]
    · rw [am_up_j e2]
  · rw [am_up_ne e]
/-- what the reference's text says -/
def TM (X : Nat → Int32) (t : Nat) (g : Hp) : Prop := g 50 6 = nI t ∧ t ≤ 200 ∧ ∀ j, j < t → g 56 j = X j
theorem TM.up (h : TM X t g) {j : Nat} (hj : j ≠ 6) (x : Int32) : TM X t (am_up g 50 j x) := by
  unfold TM
  rw [am_up_j (fun z => hj z.symm), am_up_ne (by decide)]
  exact h
/-- a number and what stands behind it -/
def nmO (X : Nat → Int32) (t p : Nat) (bh : Int32) : Option (Nat × Nat) := if 1 ≤ eT X t p - p ∧ eT X t p - p ≤ 5 ∧ eT X t p < t ∧ X (eT X t p) = bh then some (vN X (eT X t p - p) p 0, eT X t p + 1) else none
theorem m_num77 (h : TM X t g) {p i : Nat} {bh : Int32} (hi : p + i ≤ t) (hi6 : i ≤ 6) (hf : ∀ j, p ≤ j → j < p + i → fgB X j = true) (hs : i = 6 ∨ p + i = t ∨ fgB X (p + i) = false) (hc : g 50 18 = nI (p + i)) : ∃ cur, am_run 135 77 [.ref 50, .int bh, .int (nI i), .int (nI (vN X i p 0))] [] g = some (match nmO X t p bh with | none => -4 | some z => nI z.1, am_up g 50 18 cur) ∧ ∀ z, nmO X t p bh = some z → cur = nI z.2 := by
  have ht := h.2.1
  have hself : am_up g 50 18 (nI (p + i)) = g := by
    rw [← hc]; exact am_up_self g 50 18
  have hw : wi (nI i) 1 5 = (decide (1 ≤ i) && decide (i ≤ 5)) := wi_nI (lo := 1) (hi := 5) (by omega) (by omega) (by omega)
  rw [eX9_number_77_50, m_in' _ _ 1 5 (by decide) (by decide), am_cal_some, hw]
  by_cases e1 : 1 ≤ i ∧ i ≤ 5
  · have hE : eT X t p = p + i := by
      unfold eT
      refine eF_uniq (by omega) hf ?_
      rcases hs with z | z | z
      · omega
      · exact Or.inl (by omega)
      · exact Or.inr z
    rw [decide_eq_true e1.1, decide_eq_true e1.2, show (true && true) = true from rfl, bi_t, if_neg one_ne, hc, h.1]
    unfold nmO
    rw [hE, show p + i - p = i by omega]
    by_cases e2 : p + i = t
    · rw [if_pos (by rw [e2]), if_neg (show ¬ (1 ≤ i ∧ i ≤ 5 ∧ p + i < t ∧ X (p + i) = bh) by omega)]
      refine ⟨nI (p + i), ?_, fun z hz => by cases hz⟩
      rw [hself]
    · rw [if_neg (fun z => e2 ((nI_eq (by omega) (by omega)).mp z)), am_ald_in _ _ _ (show p + i < 200 by omega) (by decide), h.2.2 _ (by omega)]
      by_cases e3 : X (p + i) = bh
      · rw [if_pos e3, if_pos ⟨e1.1, e1.2, by omega, e3⟩, nI_1]
        exact ⟨_, rfl, fun z hz => by cases hz; rfl⟩
      · rw [if_neg e3, if_neg (fun z => e3 z.2.2.2)]
        refine ⟨nI (p + i), ?_, fun z hz => by cases hz⟩
        rw [hself]
  · have : (decide (1 ≤ i) && decide (i ≤ 5)) = false := by
      rw [← Bool.not_eq_true]
      intro z
      exact e1 (by simpa using z)
    rw [this, bi_f, if_pos rfl]
    have hn : nmO X t p bh = none := by
      unfold nmO
      refine if_neg (fun z => e1 ?_)
      obtain ⟨z1, z2, z3, -⟩ := z
      -- figures from p on: at least one, five at most
      by_cases h0 : i = 0
      · have : eT X t p = p + 0 := by
          unfold eT
          refine eF_uniq (by omega) (fun j a b => by omega) ?_
          subst h0
          rcases hs with z | z | z
          · omega
          · exact Or.inl (by omega)
          · exact Or.inr z
        omega
      · have h6 : i = 6 := by omega
        -- the sixth is a figure too
        have g1 := eT_ge (X := X) (t := t) p
        have hst : fgB X (eT X t p) = false := by
          unfold eT at z3 ⊢
          exact eF_stop _ _ (by omega)
        rw [hf (eT X t p) g1 (by omega)] at hst
        cases hst
    rw [hn]
    refine ⟨nI (p + i), ?_, fun z hz => by cases hz⟩
    rw [hself]
theorem m_numL {p : Nat} {bh : Int32} : ∀ d i g, i + d = 6 → p + i ≤ t → TM X t g → (∀ j, p ≤ j → j < p + i → fgB X j = true) → g 50 18 = nI (p + i) → ∃ cur, am_run 135 4 [.ref 50, .int bh, .int (nI i), .int (nI (vN X i p 0))] [] g = some (match nmO X t p bh with | none => -4 | some z => nI z.1, am_up g 50 18 cur) ∧ ∀ z, nmO X t p bh = some z → cur = nI z.2 := by
  intro d
  induction d with
  | zero =>
    intro i g hi hp h hf hc
    have ht := h.2.1
    have : i = 6 := by omega
    subst this
    have e77 := m_num77 (bh := bh) h hp (by omega) hf (Or.inl rfl) hc
    rw [eX9_number_4_50, hc, h.1]
    by_cases e : p + 6 < t
    · rw [if_pos (nI_lt e (by omega)), am_ald_in _ _ _ (show p + 6 < 200 by omega) (by decide), m_in' _ _ 48 57 (by decide) (by decide), am_cal_some, if_neg (show ¬ nI 6 < (6 : Int32) by decide)]
      split <;> exact e77
    · rw [if_neg (nI_nlt (by omega) (by omega))]
      exact e77
  | succ d ih =>
    intro i g hi hp h hf hc
    have ht := h.2.1
    rw [eX9_number_4_50, hc, h.1]
    by_cases e : p + i < t
    · rw [if_pos (nI_lt e (by omega)), am_ald_in _ _ _ (show p + i < 200 by omega) (by decide), h.2.2 _ e, m_in' _ _ 48 57 (by decide) (by decide), am_cal_some]
      by_cases ef : fgB X (p + i) = true
      · obtain ⟨x1, x2⟩ := fg_dg ef
        have hv := (vN_lt5 (X := X) (d := i) (s := p) (by omega) hf).1
        have e1 : 10 * nI (vN X i p 0) + X (p + i) - 48 = nI (vN X (i + 1) p 0) := by
          rw [x1, vN_last]
          show nI 10 * nI (vN X i p 0) + nI (48 + dg X (p + i)) - nI 48 = _
          rw [pk_mul, nI_add, pk_sub (by omega)]
          congr 1
          omega
        have ef' : wi (X (p + i)) 48 57 = true := ef
        rw [ef', bi_t, if_neg one_ne, if_pos (show nI i < (6 : Int32) from nI_lt (b := 6) (by omega) (by decide)), hc, am_ald_in _ _ _ (show p + i < 200 by omega) (by decide), h.2.2 _ e, e1, nI_1, nI_1]
        obtain ⟨cur, k1, k2⟩ := ih (i + 1) (am_up g 50 18 (nI (p + i + 1))) (by omega) (by omega) (h.up (by decide) _) (fun j a b => by
          by_cases ej : j = p + i
          · subst ej; exact ef
          · exact hf j a (by omega)) (by rw [am_up_same]; rfl)
        refine ⟨cur, ?_, k2⟩
        rw [k1, am_up_up]
      · have ef0 : fgB X (p + i) = false := by simpa using ef
        have ef' : wi (X (p + i)) 48 57 = false := ef0
        rw [ef', bi_f, if_pos rfl]
        exact m_num77 h hp (by omega) hf (Or.inr (Or.inr ef0)) hc
    · rw [if_neg (nI_nlt (by omega) (by omega))]
      exact m_num77 h hp (by omega) hf (Or.inr (Or.inl (by omega))) hc
theorem m_number (h : TM X t g) {p : Nat} (hp : p ≤ t) (hc : g 50 18 = nI p) (bh : Int32) : ∃ cur, am_call 135 [.ref 50, .int bh] g = some (match nmO X t p bh with | none => -4 | some z => nI z.1, am_up g 50 18 cur) ∧ ∀ z, nmO X t p bh = some z → cur = nI z.2 := by
  rw [eX9_number_50]
  exact m_numL (p := p) 6 0 g (by omega) (by omega) h (fun j a b => by omega) hc
theorem nmO_lt {p : Nat} {bh : Int32} {z : Nat × Nat} (h : nmO X t p bh = some z) : z.1 < 100000 ∧ p + 2 ≤ z.2 ∧ z.2 ≤ t := by
  unfold nmO at h
  split at h
  · rename_i hc
    obtain ⟨h1, h2, h3, -⟩ := hc
    cases h
    have g1 := eT_ge (X := X) (t := t) p
    exact ⟨(vN_lt5 (X := X) (by omega) (fun j a b => eT_fig (t := t) a (by omega))).2 h2, by omega, by omega⟩
  · cases h
/-- an item as two numbers, one behind the other -/
theorem itO_eq (p : Nat) : itO X t p = match nmO X t (p + 1) 44 with
    | none => none
    | some y => match nmO X t y.2 59 with
      | none => none
      | some z => if iiB (X p) y.1 z.1 = true then some (y.1, z.1, z.2) else none := by
  unfold itO nmO
  by_cases a1 : 1 ≤ eT X t (p + 1) - (p + 1) ∧ eT X t (p + 1) - (p + 1) ≤ 5 ∧ eT X t (p + 1) < t ∧ X (eT X t (p + 1)) = 44
  · rw [if_pos a1]
    by_cases a2 : 1 ≤ eT X t (eT X t (p + 1) + 1) - (eT X t (p + 1) + 1) ∧ eT X t (eT X t (p + 1) + 1) - (eT X t (p + 1) + 1) ≤ 5 ∧ eT X t (eT X t (p + 1) + 1) < t ∧ X (eT X t (eT X t (p + 1) + 1)) = 59
    · simp only [a2, and_self, if_true, a1, true_and]
    · simp only [a2, if_false, false_and, and_false]
  · rw [if_neg a1, if_neg (fun z => a1 z.1)]
theorem m_is (g : Hp) (l : Int32) {a b : Nat} (ha : a < 100000) (hb : b < 100000) (h19 : g 50 19 = nI a) : am_run 136 51 [.ref 50, .int l] [.int (nI b), .ref 50] g = some (bi (iiB l a b), am_up g 50 20 (nI b)) := by
  have wd : wi (nI b) 0 14600 = decide (b ≤ 14600) := wi0 (hi := 14600) (by omega) (by omega)
  have w9 : wi (nI a) 0 9999 = decide (a ≤ 9999) := wi0 (hi := 9999) (by omega) (by omega)
  have w4 : wi (nI a) 0 40 = decide (a ≤ 40) := wi0 (hi := 40) (by omega) (by omega)
  have w5a : wi (nI a) 0 5 = decide (a ≤ 5) := wi0 (hi := 5) (by omega) (by omega)
  have w5b : wi (nI b) 0 5 = decide (b ≤ 5) := wi0 (hi := 5) (by omega) (by omega)
  have w8a : wi (nI a) 0 8 = decide (a ≤ 8) := wi0 (hi := 8) (by omega) (by omega)
  have w8b : wi (nI b) 0 8 = decide (b ≤ 8) := wi0 (hi := 8) (by omega) (by omega)
  have g19 : am_up g 50 20 (nI b) 50 19 = nI a := by rw [am_up_j (by decide)]; exact h19
  have g20 : am_up g 50 20 (nI b) 50 20 = nI b := am_up_same _ _ _ _
  have two : ∀ (G : Hp) (x y : Bool), (if bi x = 0 then some ((0 : Int32), G) else if bi y = 0 then some (0, G) else some (1, G)) = some (bi (x && y), G) := fun G x y => by cases x <;> cases y <;> rfl
  have thr : ∀ (G : Hp) (x y : Bool), (if bi x = 0 then some ((0 : Int32), G) else if bi y = 0 then some (0, G) else if nI a = nI b then some (0, G) else some (1, G)) = some (bi (x && (y && decide (a ≠ b))), G) := fun G x y => by
    by_cases e : a = b
    · subst e
      rw [if_pos rfl]
      cases x <;> cases y <;> simp [bi]
    · rw [if_neg (fun z => e ((nI_eq (by omega) (by omega)).mp z)), decide_eq_true e]
      cases x <;> cases y <;> rfl
  generalize hG : am_up g 50 20 (nI b) = G at g19 g20
  have n1 : am_call 116 [.long (nI a).toInt64, .long 1, .long 9999] G = some (bi (wi (nI a) 1 9999), G) := m_in' _ _ 1 9999 (by decide) (by decide)
  have n2 : am_call 116 [.long (nI a).toInt64, .long 0, .long 5] G = some (bi (wi (nI a) 0 5), G) := m_in' _ _ 0 5 (by decide) (by decide)
  have n3 : am_call 116 [.long (nI b).toInt64, .long 0, .long 5] G = some (bi (wi (nI b) 0 5), G) := m_in' _ _ 0 5 (by decide) (by decide)
  have n4 : am_call 116 [.long (nI a).toInt64, .long 0, .long 9999] G = some (bi (wi (nI a) 0 9999), G) := m_in' _ _ 0 9999 (by decide) (by decide)
  have n5 : am_call 116 [.long (nI a).toInt64, .long 0, .long 8] G = some (bi (wi (nI a) 0 8), G) := m_in' _ _ 0 8 (by decide) (by decide)
  have n6 : am_call 116 [.long (nI b).toInt64, .long 0, .long 8] G = some (bi (wi (nI b) 0 8), G) := m_in' _ _ 0 8 (by decide) (by decide)
  have n7 : am_call 116 [.long (nI a).toInt64, .long 0, .long 40] G = some (bi (wi (nI a) 0 40), G) := m_in' _ _ 0 40 (by decide) (by decide)
  rw [eX9_item_51_50_s2_50, hG, g20, if_neg (enc4_ne (by omega)), g19]
  simp only [n1, n2, n3, n4, n5, n6, n7, m_isDay, am_cal_some, am_z0, am_z1, g19, g20, wd, w9, w4, w5a, w5b, w8a, w8b, wi_m ha, two, thr]
  unfold iiB
  by_cases e1 : l = 109
  · rw [if_pos e1, if_pos e1]
  rw [if_neg e1, if_neg e1]
  by_cases e2 : l = 110
  · rw [if_pos e2, if_pos e2]
  rw [if_neg e2, if_neg e2]
  by_cases e3 : l = 111
  · rw [if_pos e3, if_pos e3]
  rw [if_neg e3, if_neg e3]
  by_cases e4 : l = 115
  · rw [if_pos (Or.inl e4), e4, if_neg (by decide), if_neg (by decide), if_neg (by decide), if_pos rfl]
  by_cases e5 : l = 117
  · rw [if_pos (Or.inr e5), e5, if_neg (by decide), if_neg (by decide), if_neg (by decide), if_neg (by decide), if_neg (by decide), if_pos rfl]
  rw [if_neg (show ¬ (l = 115 ∨ l = 117) from fun z => by rcases z with z | z <;> contradiction)]
  by_cases e6 : l = 121
  · rw [if_pos e6, e6, if_neg (by decide), if_neg (by decide), if_neg (by decide), if_neg (by decide), if_neg (by decide), if_neg (by decide), if_neg (by decide), if_neg (by decide), if_neg (by decide), if_pos rfl]
  · rw [if_neg e4, if_neg e5, if_neg e6, if_neg e6]
    simp [bi]
theorem m_itemN (h : TM X t g) {p : Nat} (hp : p < t) (hc : g 50 18 = nI p) : ∃ H, am_call 136 [.ref 50] g = some (bi (itO X t p).isSome, H) ∧ (∀ q, q ≠ 50 → H q = g q) ∧ (∀ j, j ∉ [18, 19, 20] → H 50 j = g 50 j) ∧ ∀ z, itO X t p = some z → H 50 18 = nI z.2.2 ∧ H 50 19 = nI z.1 ∧ H 50 20 = nI z.2.1 := by
  have ht := h.2.1
  have hc1 : am_up g 50 18 (nI (p + 1)) 50 18 = nI (p + 1) := am_up_same _ _ _ _
  obtain ⟨cur, k1, k2⟩ := m_number (h.up (j := 18) (by decide) (nI (p + 1))) (p := p + 1) (by omega) hc1 44
  rw [am_up_up] at k1
  have fr : ∀ (c : Int32) q, q ≠ 50 → am_up g 50 18 c q = g q := fun c q hq => am_up_ne hq
  rw [eX9_item_50, hc, am_ald_in _ _ _ (show p < 200 by omega) (by decide), h.2.2 p hp, nI_1, k1, am_cal_some, am_up_same]
  cases hn : nmO X t (p + 1) 44 with
  | none =>
    have hit : itO X t p = none := by rw [itO_eq, hn]
    rw [hit, eX9_item_51_50_s2_50, am_up_same]
    refine ⟨_, by rw [if_pos rfl, if_pos rfl, am_z0]; rfl, fun q hq => ?_, fun j hj => ?_, fun z hz => by cases hz⟩
    · rw [am_up_ne hq, am_up_ne hq, am_up_ne hq]
    · simp only [List.mem_cons, List.not_mem_nil, or_false, not_or] at hj
      rw [am_up_j hj.2.2, am_up_j hj.2.1, am_up_j hj.1]
  | some y =>
    obtain ⟨y1, y2, y3⟩ := nmO_lt hn
    have hcur := k2 y hn
    subst hcur
    have hTM : TM X t (am_up (am_up g 50 18 (nI y.2)) 50 19 (nI y.1)) := (h.up (j := 18) (by decide) _).up (by decide) _
    obtain ⟨cur2, l1, l2⟩ := m_number hTM (p := y.2) y3 (by rw [am_up_j (by decide), am_up_same]) 59
    show ∃ H, (if nI y.1 = -4 then _ else _) = _ ∧ _
    rw [if_neg (enc4_ne (by omega)), l1, am_cal_some]
    cases hn2 : nmO X t y.2 59 with
    | none =>
      have hit : itO X t p = none := by
        rw [itO_eq, hn]
        show (match nmO X t y.2 59 with | none => none | some z => _) = none
        rw [hn2]
      rw [hit]
      show ∃ H, am_run 136 51 [.ref 50, .int (X p)] [.int (-4), .ref 50] _ = _ ∧ _
      rw [eX9_item_51_50_s2_50, am_up_same]
      refine ⟨_, by rw [if_pos rfl, am_z0]; rfl, fun q hq => ?_, fun j hj => ?_, fun z hz => by cases hz⟩
      · rw [am_up_ne hq, am_up_ne hq, am_up_ne hq, am_up_ne hq]
      · simp only [List.mem_cons, List.not_mem_nil, or_false, not_or] at hj
        rw [am_up_j hj.2.2, am_up_j hj.1, am_up_j hj.2.1, am_up_j hj.1]
    | some z =>
      obtain ⟨z1, z2, z3⟩ := nmO_lt hn2
      have hcur := l2 z hn2
      subst hcur
      have hit : itO X t p = if iiB (X p) y.1 z.1 = true then some (y.1, z.1, z.2) else none := by
        rw [itO_eq, hn]
        show (match nmO X t y.2 59 with | none => none | some z => if iiB (X p) y.1 z.1 = true then some (y.1, z.1, z.2) else none) = _
        rw [hn2]
      rw [hit]
      show ∃ H, am_run 136 51 [.ref 50, .int (X p)] [.int (nI z.1), .ref 50] _ = _ ∧ _
      rw [m_is _ _ y1 z1 (by rw [am_up_j (by decide), am_up_same])]
      refine ⟨am_up (am_up (am_up (am_up g 50 18 (nI y.2)) 50 19 (nI y.1)) 50 18 (nI z.2)) 50 20 (nI z.1), ?_, fun q hq => ?_, fun j hj => ?_, fun w hw => ?_⟩
      · show some (bi (iiB (X p) y.1 z.1), _) = some (bi (if iiB (X p) y.1 z.1 = true then some (y.1, z.1, z.2) else none).isSome, _)
        cases iiB (X p) y.1 z.1 <;> rfl
      · rw [am_up_ne hq, am_up_ne hq, am_up_ne hq, am_up_ne hq]
      · simp only [List.mem_cons, List.not_mem_nil, or_false, not_or] at hj
        rw [am_up_j hj.2.2, am_up_j hj.1, am_up_j hj.2.1, am_up_j hj.1]
      · have hw : (if iiB (X p) y.1 z.1 = true then some (y.1, z.1, z.2) else none) = some w := hw
        split at hw
        · cases hw
          exact ⟨by rw [am_up_j (by decide), am_up_same], by rw [am_up_j (by decide), am_up_j (by decide), am_up_same], am_up_same _ _ _ _⟩
        · cases hw
end Parse3
