section Words
variable {n : Nat} {lk ln : Nat → Nat} {c : Nat} {mr : Nat → Nat} {t kc : Nat} {f g : Hp}
/-- the parts of a set: right, within it, apart, all of it -/
theorem shL_ok {R : Nat → Bool} {Wt : Nat → Nat} (h9 : n ≤ 9) : ∀ F S z, S < 2 ^ n → cnt S n ≤ F → KB R Wt S = some z → (∀ i, i < (shL R Wt F S).length → R ((shL R Wt F S).getD i 0) = true ∧ 1 ≤ (shL R Wt F S).getD i 0 ∧ (∀ v, ((shL R Wt F S).getD i 0).testBit v = true → S.testBit v = true)) ∧ (∀ i j v, i < j → j < (shL R Wt F S).length → ((shL R Wt F S).getD i 0).testBit v = true → ((shL R Wt F S).getD j 0).testBit v = false) ∧ ∀ v, S.testBit v = true → ∃ i, i < (shL R Wt F S).length ∧ ((shL R Wt F S).getD i 0).testBit v = true := by
  have h5 := pow9 h9
  have hpos : ∀ S, S < 2 ^ n → S ≠ 0 → 1 ≤ cnt S n := fun S hS h0 => by
    have := cnt_posF ⟨S, by omega⟩ h0
    rw [cnt9 hS h9] at this
    exact this
  intro F
  induction F with
  | zero =>
    intro S z hS hc hz
    have h0 : S = 0 := by
      rcases Nat.eq_zero_or_pos S with e | e
      · exact e
      · have := hpos S hS (by omega)
        omega
    subst h0
    refine ⟨fun i hi => absurd hi (Nat.not_lt_zero _), fun i j v _ hj => absurd hj (Nat.not_lt_zero _), fun v hv => ?_⟩
    rw [Nat.zero_testBit] at hv; cases hv
  | succ F ih =>
    intro S z hS hc hz
    by_cases h0 : S = 0
    · subst h0
      have e : shL R Wt (F + 1) 0 = [] := by rw [shL]; rfl
      rw [e]
      refine ⟨fun i hi => absurd hi (Nat.not_lt_zero _), fun i j v _ hj => absurd hj (Nat.not_lt_zero _), fun v hv => ?_⟩
      rw [Nat.zero_testBit] at hv; cases hv
    · have h1 : 1 ≤ S := by omega
      obtain ⟨k, p⟩ := z
      obtain ⟨c1, c2, y, c3, -⟩ := KB_some h1 hz
      obtain ⟨d1, d2⟩ := cnd_le c1
      have hsub := cnd_sub c1
      have hlt := cnd_lt c1
      rw [shL_ne h0 hz]
      have hcnt : cnt (S ^^^ p) n ≤ F := by
        have e1 := nsum_add (g := fun _ => 1) hsub n
        have e2 := hpos p (by omega) (by omega)
        unfold cnt at hc e2 ⊢
        omega
      obtain ⟨a1, a2, a3⟩ := ih (S ^^^ p) y (by omega) hcnt c3
      refine ⟨fun i hi => ?_, fun i j v hij hj hv => ?_, fun v hv => ?_⟩
      · cases i with
        | zero => exact ⟨c2, d2, hsub⟩
        | succ i =>
          obtain ⟨b1, b2, b3⟩ := a1 i (by simpa using hi)
          refine ⟨b1, b2, fun v hv => ?_⟩
          have := b3 v hv
          rw [Nat.testBit_xor] at this
          cases hs : S.testBit v with
          | true => rfl
          | false =>
            cases hp : p.testBit v with
            | true => rw [hsub v hp] at hs; cases hs
            | false => rw [hs, hp] at this; cases this
      · cases j with
        | zero => omega
        | succ j =>
          have hj' : j < (shL R Wt F (S ^^^ p)).length := by simpa using hj
          cases i with
          | zero =>
            have hv : p.testBit v = true := hv
            show ((shL R Wt F (S ^^^ p)).getD j 0).testBit v = false
            cases hx : ((shL R Wt F (S ^^^ p)).getD j 0).testBit v with
            | false => rfl
            | true =>
              have := (a1 j hj').2.2 v hx
              rw [Nat.testBit_xor, hv, hsub v hv] at this
              cases this
          | succ i => exact a2 i j v (by omega) hj' hv
      · by_cases hp : p.testBit v = true
        · exact ⟨0, by simp, hp⟩
        · have hp0 : p.testBit v = false := by simpa using hp
          obtain ⟨i, i1, i2⟩ := a3 v (by rw [Nat.testBit_xor, hv, hp0]; rfl)
          exact ⟨i + 1, by simpa using i1, i2⟩
theorem SH_ok {R : Nat → Bool} {Wt : Nat → Nat} (h9 : n ≤ 9) : (∀ i, i < (SH R Wt n).length → R ((SH R Wt n).getD i 0) = true ∧ 1 ≤ (SH R Wt n).getD i 0 ∧ (SH R Wt n).getD i 0 < 2 ^ n) ∧ (∀ i j v, i < j → j < (SH R Wt n).length → ((SH R Wt n).getD i 0).testBit v = true → ((SH R Wt n).getD j 0).testBit v = false) ∧ (SH R Wt n ≠ [] → ∀ v, v < n → ∃ i, i < (SH R Wt n).length ∧ ((SH R Wt n).getD i 0).testBit v = true) := by
  have h6 := Nat.two_pow_pos n
  unfold SH
  cases hz : KB R Wt (2 ^ n - 1) with
  | none => exact ⟨fun i hi => absurd hi (Nat.not_lt_zero _), fun i j v _ hj => absurd hj (Nat.not_lt_zero _), fun z => absurd rfl z⟩
  | some z =>
    obtain ⟨a1, a2, a3⟩ := shL_ok h9 9 (2 ^ n - 1) z (by omega) (Nat.le_trans (cnt_le _ _) h9) hz
    refine ⟨fun i hi => ?_, a2, fun _ v hv => a3 v (by rw [Nat.testBit_two_pow_sub_one]; exact decide_eq_true hv)⟩
    obtain ⟨b1, b2, b3⟩ := a1 i hi
    refine ⟨b1, b2, ?_⟩
    apply Nat.lt_pow_two_of_testBit
    intro v hv
    cases hx : ((shL R Wt 9 (2 ^ n - 1)).getD i 0).testBit v with
    | false => rfl
    | true =>
      have := b3 v hx
      rw [Nat.testBit_two_pow_sub_one, decide_eq_false (by omega)] at this
      cases this
/-- how the words of a day are found -/
noncomputable def wbO (n : Nat) (lk ln : Nat → Nat) (c : Nat) (mr : Nat → Nat) (d l : Nat) (f : Hp) : WAcc := WB (fun w => stW (f 17) (f 18) (f 19) c (wd l w)) (hmN lk n (fun a => (shO n lk ln c d f).getD a 0) mr l) (l * l) (shO n lk ln c d f).length
theorem Iv.findW (h : Iv n lk ln c mr t kc g) {d l : Nat} (hd : d ≤ 14600) (h2 : 2 ≤ l) (h4 : l ≤ 4) (hs : SV (Rd (g 3) (g 4) (g 17) (g 18) (g 19) n c lk ln (nI d)) (Wd lk ln n) n g) (hk4 : (shO n lk ln c d g).length ≤ 4) : ∃ g', am_call 56 [.ref 27, .int (nI d), .int (nI l)] g = some (bi (!decide (wbO n lk ln c mr d l g = none)), g') ∧ Iv n lk ln c mr t kc g' ∧ AgC g g' ∧ (∀ q, q ∉ [27, 28, 29, 30, 31, 32] → g' q = g q) ∧ WV (fun w => stW (g 17) (g 18) (g 19) c (wd l w)) (hmN lk n (fun a => (shO n lk ln c d g).getD a 0) mr l) l (l * l) (shO n lk ln c d g).length g' := by
  have hrun : ∃ g', am_run 56 16 [.ref 27, .int (nI d), .int (nI l)] [] g = some (bi (!decide (wbO n lk ln c mr d l g = none)), g') ∧ Iv n lk ln c mr t kc g' ∧ AgC g g' ∧ (∀ q, q ∉ [27, 28, 29, 30, 31, 32] → g' q = g q) ∧ WV (fun w => stW (g 17) (g 18) (g 19) c (wd l w)) (hmN lk n (fun a => (shO n lk ln c d g).getD a 0) mr l) l (l * l) (shO n lk ln c d g).length g' := by
    have hso := (SH_ok (R := Rd (g 3) (g 4) (g 17) (g 18) (g 19) n c lk ln (nI d)) (Wt := Wd lk ln n) h.n9).1
    have h5 := pow9 h.n9
    obtain ⟨g', a1, a2, a3, a4, a5, a6⟩ := c_find16 (sh := fun a => (shO n lk ln c d g).getD a 0) (k := (shO n lk ln c d g).length) (l := l) h.cs h.M.2 h.nl h2 h4 hs.2.1 hk4 (fun a ha => ⟨hs.2.2.2 a ha, Nat.lt_of_lt_of_le (hso a ha).2.2 h5⟩) (nI d)
    have ag : AgC g g' := AgC.of (fun q hq => a2 q (fun z => hq (by
      simp only [List.mem_cons, List.not_mem_nil, or_false] at z ⊢
      omega))) (fun j _ => by rw [a2 2 (by decide)])
    refine ⟨g', a1, h.cls ag ⟨h.C.1.keep (by rw [a2 2 (by decide)]) (a2 8 (by decide)) (a2 9 (by decide)), by rw [a2 24 (by decide)]; exact h.C.2.1, by rw [a2 36 (by decide)]; exact h.C.2.2.1, fun d' hd' e => ?_, fun d' l' hd' h2' h4' e1 e2 => ?_⟩, ag, a2, a6⟩
    · rw [a2 22 (by decide)] at e
      rw [a2 3 (by decide), a2 4 (by decide), a2 17 (by decide), a2 18 (by decide), a2 19 (by decide)]
      exact (h.C.2.2.2.1 d' hd' e).keep (a2 23 (by decide)) (by rw [a2 22 (by decide)]) (by rw [a2 22 (by decide)]) (a2 26 (by decide))
    · rw [a4] at e1
      rw [a5] at e2
      have z1 : d = d' := (nI_eq (by omega) (by omega)).mp e1
      have z2 : l = l' := (nI_eq (by omega) (by omega)).mp e2
      subst z1 z2
      have hsh : shO n lk ln c d g' = shO n lk ln c d g := by unfold shO; rw [a2 3 (by decide), a2 4 (by decide), a2 17 (by decide), a2 18 (by decide), a2 19 (by decide)]
      rw [hsh, a2 17 (by decide), a2 18 (by decide), a2 19 (by decide)]
      exact a6
  rw [eX7_findWords_27]
  by_cases e1 : nI d = g 27 12
  · rw [if_pos e1]
    by_cases e2 : nI l = g 27 13
    · rw [if_pos e2]
      have hv := h.C.2.2.2.2 d l hd h2 h4 e1.symm e2.symm
      refine ⟨g, ?_, h, AgC.refl g, fun q _ => rfl, hv⟩
      have hb : l * l ≤ 4 * 4 := Nat.mul_le_mul h4 h4
      have hcx := cx_le (stand := fun w => stW (g 17) (g 18) (g 19) c (wd l w)) (l * l)
      rw [hv.1, hv.2.1, am_z0, am_z1]
      have hw := WB_none (stand := fun w => stW (g 17) (g 18) (g 19) c (wd l w)) (hm := hmN lk n (fun a => (shO n lk ln c d g).getD a 0) mr l) (B := l * l) (k := (shO n lk ln c d g).length)
      unfold wbO
      by_cases e3 : cx (fun w => stW (g 17) (g 18) (g 19) c (wd l w)) (l * l) < (shO n lk ln c d g).length
      · rw [if_pos (nI_lt e3 (by omega)), decide_eq_true (by rw [hw]; exact e3)]; rfl
      · rw [if_neg (nI_nlt (by omega) (by omega)), decide_eq_false (by rw [hw]; exact e3)]; rfl
    · rw [if_neg e2]; exact hrun
  · rw [if_neg e1]; exact hrun
theorem Iv.layW (h : Iv n lk ln c mr t kc g) {d l : Nat} (h2 : 2 ≤ l) (h4 : l ≤ 4) (hs : MV (Rd (g 3) (g 4) (g 17) (g 18) (g 19) n c lk ln (nI d)) (Wd lk ln n) n g) (hk1 : 1 ≤ (shO n lk ln c d g).length) (hk4 : (shO n lk ln c d g).length ≤ 4) : ∃ g', am_call 160 [.ref 50, .int (nI l)] g = some (bi (!decide (wbO n lk ln c mr d l g = none)), g') ∧ AgR g g' ∧ (∀ q, q ≠ 50 → q ≠ 71 → q ≠ 72 → g' q = g q) ∧ g' 50 25 = g 50 25 ∧ MWD l (shO n lk ln c d g).length (wbO n lk ln c mr d l g) g' := by
  have hso := (SH_ok (R := Rd (g 3) (g 4) (g 17) (g 18) (g 19) n c lk ln (nI d)) (Wt := Wd lk ln n) h.n9).1
  have h5 := pow9 h.n9
  have hmw : MWI (stW (g 17) (g 18) (g 19) c) lk ln n c (fun a => (shO n lk ln c d g).getD a 0) mr l (shO n lk ln c d g).length g := by
    refine ⟨h.ms, by rw [h.M.1]; exact h.M.2, hs.2.1, hk1, hk4, h2, h4, fun a ha => ⟨hs.2.2.2 a ha, Nat.lt_of_lt_of_le (hso a ha).2.2 h5⟩, fun w hw g' e1 e2 => ?_⟩
    rw [m_mayStand (by rw [e1]; exact h.c1) h.c40 hw, e2]
    have := stW_congr h.it3 w
    unfold stW at this ⊢
    rw [this]
  obtain ⟨g', a1, a2, a3⟩ := m_layWords hmw
  refine ⟨g', a1, AgR.of (fun q hq => a2.1 q ?_ ?_ ?_) (fun j hj => a2.2 j (fun z => hj (by rw [z]; decide))), a2.1, a2.2 25 (by decide), a3⟩
  all_goals
    intro z
    exact hq (by rw [z]; decide)
end Words
