section Weigh
variable {n : Nat} {ww x : Nat → Nat}
/-- the words of a given town, as numbers -/
def TW (n : Nat) (ww : Nat → Nat) (w : Nat → Int32) : Prop := (∀ s, s < n → w s = nI (ww s) ∧ ww s < 36) ∧ ∀ s, n ≤ s → s < 9 → w s = -1
theorem TW_bit {w : Nat → Int32} (h : TW n ww w) (h9 : n ≤ 9) {s t : Nat} (hs : s < n) : (wSet w (nI (ww s)) 9).testBit t = (decide (t < n) && decide (ww t = ww s)) := by
  unfold wSet
  rw [setOf_bit]
  obtain ⟨s1, s2⟩ := h.1 s hs
  by_cases ht : t < n
  · obtain ⟨t1, t2⟩ := h.1 t ht
    rw [t1, decide_eq_true ht, decide_eq_true (show t < 9 by omega), Bool.true_and, Bool.true_and]
    by_cases e : ww t = ww s
    · rw [e]; simp
    · rw [decide_eq_false e, decide_eq_false (fun z => e ((nI_eq (by omega) (by omega)).mp z))]
  · rw [decide_eq_false ht, Bool.false_and]
    by_cases h9t : t < 9
    · rw [h.2 t (by omega) h9t, decide_eq_false (show ¬ (-1 : Int32) = nI (ww s) from fun z => nI_m1 (n := ww s) (by omega) z.symm), Bool.and_false]
    · rw [decide_eq_false h9t, Bool.false_and]
theorem wSet_lt (w : Nat → Int32) (y : Int32) (m : Nat) : wSet w y m < 2 ^ m := setOf_lt _ m
theorem TW_low {w : Nat → Int32} (h : TW n ww w) (h9 : n ≤ 9) {s : Nat} (hs : s < n) : (lowb (wSet w (nI (ww s)) 9) = 2 ^ s) = (fst1 ww s = true) := by
  have hlt : wSet w (nI (ww s)) 9 < 512 := wSet_lt _ _ 9
  have hss : (wSet w (nI (ww s)) 9).testBit s = true := by rw [TW_bit h h9 hs]; simp [hs]
  have hne : wSet w (nI (ww s)) 9 ≠ 0 := by
    intro e
    rw [e, Nat.zero_testBit] at hss
    cases hss
  obtain ⟨t, t1, t2, t3⟩ := low_t ⟨_, hlt⟩ hne
  have t1 : lowb (wSet w (nI (ww s)) 9) = 2 ^ t.val := t1
  have t2 : (wSet w (nI (ww s)) 9).testBit t.val = true := t2
  have t3 : ∀ i, i < t.val → (wSet w (nI (ww s)) 9).testBit i = false := fun i hi => t3 ⟨i, by have := t.isLt; omega⟩ hi
  rw [TW_bit h h9 hs] at t2
  simp only [Bool.and_eq_true, decide_eq_true_eq] at t2
  refine propext ⟨fun e => ?_, fun e => ?_⟩
  · have ets : t.val = s := by
      have e2 : 2 ^ t.val = 2 ^ s := t1.symm.trans e
      rcases Nat.lt_trichotomy t.val s with hl | he | hl
      · have := Nat.pow_lt_pow_right (a := 2) (by decide) hl
        omega
      · exact he
      · have := Nat.pow_lt_pow_right (a := 2) (by decide) hl
        omega
    unfold fst1
    refine neqB_iff.mpr fun j hj ej => ?_
    have := t3 j (by omega)
    rw [TW_bit h h9 hs] at this
    simp [ej, show j < n by omega] at this
  · rw [t1]
    have : t.val = s := by
      rcases Nat.lt_trichotomy t.val s with hl | he | hl
      · exact absurd t2.2 (neqB_iff.mp e _ hl)
      · exact he
      · rw [t3 s hl] at hss; cases hss
    rw [this]
theorem TW_sum {w m a b : Nat → Int32} {day : Int32} (h : TW n ww w) (h9 : n ≤ 9) (hx : ∀ s, s < n → m s * (a s + b s * (day / 365)) = nI (x s)) {s : Nat} (hs : s < n) : wSum m a b n (wSet w (nI (ww s)) 9) day = nI (smN (fun t => if ww t = ww s then x t else 0) n) := by
  unfold wSum
  rw [← sm_nI]
  refine sm_congr fun t ht => ?_
  unfold wTerm
  rw [TW_bit h h9 hs, decide_eq_true ht, Bool.true_and]
  by_cases e : ww t = ww s
  · simp only [e, decide_true, if_true]
    exact hx t ht
  · simp only [e, decide_false, Bool.false_eq_true, if_false]
    rfl
theorem c_loadOf {g : Hp} {c S : Nat} {u : Nat → Nat} (hc : g 33 3 = nI c) (h9 : c ≤ 9) (hu : ∀ i, i < c → g 34 i = nI (u i)) (hS : S < 512) : am_call 18 [.ref 33, .int (nI S)] g = some (nI (smN (fun i => if S.testBit i then u i else 0) c), g) := by
  have key : ∀ d i, i + d = c → am_run 18 4 [.ref 33, .int (nI S), .int (nI (smN (fun i => if S.testBit i then u i else 0) i)), .int (nI i)] [] g = some (nI (smN (fun i => if S.testBit i then u i else 0) c), g) := by
    intro d
    induction d with
    | zero =>
      intro i hi
      have : i = c := by omega
      subst this
      rw [eX2_loadOf_4_33, hc, if_neg (nI_nlt (by omega) (by omega))]
    | succ d ih =>
      intro i hi
      rw [← ih (i + 1) (by omega), eX2_loadOf_4_33, hc, if_pos (nI_lt (by omega) (by omega)), c_hasSide (by omega) (by omega), am_cal_some, am_ald_in _ _ _ (show i < 9 by omega) (by decide), hu i (by omega), nI_1, nI_add]
      simp only [bi_eq0, smN]
      cases S.testBit i <;> simp
  rw [eX2_loadOf_33]
  exact key c 0 (by omega)
end Weigh
