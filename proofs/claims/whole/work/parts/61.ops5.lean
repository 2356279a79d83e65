section Ops5
variable {n : Nat} {lk ln : Nat → Nat} {c : Nat} {mr : Nat → Nat} {t kc : Nat} {f g : Hp}
theorem KB_cov {R : Nat → Bool} {Wt : Nat → Nat} : ∀ S z, KB R Wt S = some z → ∀ v, S.testBit v = true → ∃ p, 1 ≤ p ∧ p ≤ S ∧ R p = true ∧ p.testBit v = true := by
  intro S
  induction S using Nat.strongRecOn with
  | ind S ih =>
    intro z hz v hv
    have h1 : 1 ≤ S := by
      rcases Nat.eq_zero_or_pos S with e | e
      · rw [e, Nat.zero_testBit] at hv; cases hv
      · exact e
    obtain ⟨k, p⟩ := z
    obtain ⟨c1, c2, y, c3, -⟩ := KB_some h1 hz
    obtain ⟨d1, d2⟩ := cnd_le c1
    by_cases e : p.testBit v = true
    · exact ⟨p, d2, d1, c2, e⟩
    · have e0 : p.testBit v = false := by simpa using e
      have hlt := cnd_lt c1
      obtain ⟨q, q1, q2, q3, q4⟩ := ih (S ^^^ p) hlt y c3 v (by rw [Nat.testBit_xor, hv, e0]; rfl)
      exact ⟨q, q1, by omega, q3, q4⟩
theorem SH_some {R : Nat → Bool} {Wt : Nat → Nat} {n : Nat} (h : SH R Wt n ≠ []) : ∃ z, KB R Wt (2 ^ n - 1) = some z := by
  unfold SH at h
  cases e : KB R Wt (2 ^ n - 1) with
  | none => rw [e] at h; exact absurd rfl h
  | some z => exact ⟨z, rfl⟩
theorem shL_len {R : Nat → Bool} {Wt : Nat → Nat} : ∀ F S, (shL R Wt F S).length ≤ F
  | 0, S => Nat.le_refl _
  | F + 1, S => by
    rw [shL]
    split
    · exact Nat.zero_le _
    · split
      · exact Nat.zero_le _
      · rw [List.length_cons]
        have := shL_len (R := R) (Wt := Wt) F (S ^^^ (by assumption : Nat × Nat).2)
        rename_i z _
        have := shL_len (R := R) (Wt := Wt) F (S ^^^ z.2)
        omega
theorem SH_len {R : Nat → Bool} {Wt : Nat → Nat} {n : Nat} : (SH R Wt n).length ≤ 9 := by
  unfold SH
  split
  · exact Nat.zero_le _
  · exact shL_len 9 _
theorem barF_no {R : Nat → Bool} {Wt : Nat → Nat} {n : Nat} (h : SH R Wt n ≠ []) : ∀ d v, v + d = n → barF R n d v = -4 := by
  obtain ⟨z, hz⟩ := SH_some h
  have hp := Nat.two_pow_pos n
  intro d
  induction d with
  | zero => intro v _; rfl
  | succ d ih =>
    intro v hv
    obtain ⟨p, p1, p2, p3, p4⟩ := KB_cov _ z hz v (by rw [Nat.testBit_two_pow_sub_one]; exact decide_eq_true (by omega))
    rw [barF, inR_true.mpr ⟨p, p1, by omega, p3, p4⟩]
    exact ih (v + 1) (by omega)
theorem op_shaped (h : Iv n lk ln c mr t kc f) (a1 a2 : Int32) : OP 72 151 [.int a1, .int a2] f := by
  by_cases e1 : wi a1 0 14600 = true
  case neg =>
    have e1 : wi a1 0 14600 = false := by simpa using e1
    exact OP.same h (r := -1) (by rw [eX8_shaped_1, c_isDay, am_cal_some, e1, bi_f, if_pos rfl]) (by rw [eX9_shaped_50, m_isDay, am_cal_some, e1, bi_f, if_pos rfl])
  by_cases e2 : a2 < (-3)
  case pos =>
    exact OP.same h (r := -1) (by rw [eX8_shaped_1, c_isDay, am_cal_some, e1, bi_t, if_neg one_ne, if_pos e2]) (by rw [eX9_shaped_50, m_isDay, am_cal_some, e1, bi_t, if_neg one_ne, if_pos e2])
  obtain ⟨d, hd, rfl⟩ := wi_day e1
  obtain ⟨g, g1, g2, g3, g4, g5⟩ := h.shapeOn hd
  obtain ⟨k, k1, k2, k3, k4⟩ := g2.layShapes (nI d)
  rw [g5 3 (by decide), g5 4 (by decide), g5 17 (by decide), g5 18 (by decide), g5 19 (by decide)] at k1 k4
  generalize hR : Rd (f 3) (f 4) (f 17) (f 18) (f 19) n c lk ln (nI d) = R at g4 k1 k4
  have h9 := h.n9
  have hlen := SH_len (R := R) (Wt := Wd lk ln n) (n := n)
  have hk := g2.ref k2
  by_cases e3 : a2 = -3
  · refine OP.ask g2 (h := k) (r := barF R n n 0) ?_ ?_ g3 k2
    · rw [eX8_shaped_1, c_isDay, am_cal_some, e1, bi_t, if_neg one_ne, if_neg e2, g1, am_cal_some, if_pos e3, c_bar g2.n7 h9 g4, am_cal_some]
      by_cases e4 : SH R (Wd lk ln n) n = []
      · rw [if_pos e4]
      · rw [if_neg e4, barF_no e4 n 0 (by omega)]
    · rw [eX9_shaped_50, m_isDay, am_cal_some, e1, bi_t, if_neg one_ne, if_neg e2, k1, am_cal_some, if_pos e3, m_bar hk.n0 h9 k4.1, am_cal_some]
  by_cases e4 : SH R (Wd lk ln n) n = []
  · refine OP.ask g2 (h := k) (r := -4) ?_ ?_ g3 k2
    · rw [eX8_shaped_1, c_isDay, am_cal_some, e1, bi_t, if_neg one_ne, if_neg e2, g1, am_cal_some, if_neg e3, g4.2.1, e4, if_pos (show nI ([] : List Nat).length = 0 from nI_0)]
    · rw [eX9_shaped_50, m_isDay, am_cal_some, e1, bi_t, if_neg one_ne, if_neg e2, k1, am_cal_some, if_neg e3, decide_eq_false (fun z => z e4), bi_f, if_pos rfl]
  have e5 : (SH R (Wd lk ln n) n).length ≠ 0 := fun z => e4 (List.eq_nil_of_length_eq_zero z)
  have cq : ∀ X, (am_call 72 [.ref 1, .int (nI d), .int a2] f = X) = ((if a2 = -1 then some (g 22 6, g) else if a2 = -2 then some (g 22 7, g) else if a2 < g 22 6 then am_ald g 26 9 a2 fun x4 => some (x4, g) else some (-4, g)) = X) := fun X => by
    rw [eX8_shaped_1, c_isDay, am_cal_some, e1, bi_t, if_neg one_ne, if_neg e2, g1, am_cal_some, if_neg e3, g4.2.1, if_neg (nI_nez e5 (by omega))]
  have mq : ∀ X, (am_call 151 [.ref 50, .int (nI d), .int a2] g = X) = ((if a2 = -1 then some (k 50 25, k) else if a2 = -2 then (am_cal (am_call 121 [.ref 50] k) fun x4 g4 => am_ald g4 68 512 x4 fun x5 => some (x5, g4)) else if a2 < k 50 25 then am_ald k 70 9 a2 fun x4 => some (x4, k) else some (-4, k)) = X) := fun X => by
    rw [eX9_shaped_50, m_isDay, am_cal_some, e1, bi_t, if_neg one_ne, if_neg e2, k1, am_cal_some, if_neg e3, decide_eq_true e4, bi_t, if_neg one_ne]
  by_cases e6 : a2 = -1
  · refine OP.ask g2 (h := k) (r := nI (SH R (Wd lk ln n) n).length) ?_ ?_ g3 k2
    · show am_call 72 [.ref 1, .int (nI d), .int a2] f = _
      rw [cq, if_pos e6, g4.2.1]
    · show am_call 151 [.ref 50, .int (nI d), .int a2] g = _
      rw [mq, if_pos e6, k4.2.1]
  by_cases e7 : a2 = -2
  · have h5 := pow9 h9
    have h6 := Nat.two_pow_pos n
    refine OP.ask g2 (h := k) (r := nI (SW R (Wd lk ln n) n)) ?_ ?_ g3 k2
    · show am_call 72 [.ref 1, .int (nI d), .int a2] f = _
      rw [cq, if_neg e6, if_pos e7, g4.2.2.1]
    · show am_call 151 [.ref 50, .int (nI d), .int a2] g = _
      rw [mq, if_neg e6, if_pos e7, eX9_all_50, hk.n0, all_eq h9, am_cal_some, am_ald_in _ _ _ (show 2 ^ n - 1 < 512 by omega) (by decide), k4.2.2.1 e4]
  have e8 : ¬ a2 < 0 := by
    rw [fa_lt] at *
    rw [fa_eq] at e3 e6 e7
    have x1 : (-1 : Int32).toInt = -1 := by decide
    have x2 : (-2 : Int32).toInt = -2 := by decide
    have x3 : (-3 : Int32).toInt = -3 := by decide
    have x0 : (0 : Int32).toInt = 0 := rfl
    omega
  obtain ⟨i, hi, rfl⟩ := nn_of e8
  by_cases e9 : i < (SH R (Wd lk ln n) n).length
  · refine OP.ask g2 (h := k) (r := nI ((SH R (Wd lk ln n) n).getD i 0)) ?_ ?_ g3 k2
    · show am_call 72 [.ref 1, .int (nI d), .int (nI i)] f = _
      rw [cq, if_neg e6, if_neg e7, g4.2.1, if_pos (nI_lt e9 (by omega)), am_ald_in _ _ _ (show i < 9 by omega) (by decide), g4.2.2.2 i e9]
    · show am_call 151 [.ref 50, .int (nI d), .int (nI i)] g = _
      rw [mq, if_neg e6, if_neg e7, k4.2.1, if_pos (nI_lt e9 (by omega)), am_ald_in _ _ _ (show i < 9 by omega) (by decide), k4.2.2.2 i e9]
  · refine OP.ask g2 (h := k) (r := -4) ?_ ?_ g3 k2
    · show am_call 72 [.ref 1, .int (nI d), .int (nI i)] f = _
      rw [cq, if_neg e6, if_neg e7, g4.2.1, if_neg (nI_nlt (by omega) hi)]
    · show am_call 151 [.ref 50, .int (nI d), .int (nI i)] g = _
      rw [mq, if_neg e6, if_neg e7, k4.2.1, if_neg (nI_nlt (by omega) hi)]
end Ops5

