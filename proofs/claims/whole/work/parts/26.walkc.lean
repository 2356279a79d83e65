theorem encW_some (off k : Nat) : encW off (some k) = nI (k + off) := rfl
theorem encW_none (off : Nat) : encW off none = 1000000 := rfl
def COK (lk ln : Nat → Nat) (n : Nat) (T : Nat → Int32) (k : Nat) : Prop := ∀ S v, 1 ≤ S → S < k → v < n → T (S * 9 + v) = encW (nsum ln S n) (WK lk n S v)
section WalkC
variable {f : Hp} {n : Nat} {lk ln : Nat → Nat}
theorem nln {S : Nat} (h9 : n ≤ 9) (hnb : ∀ i, ln i ≤ 500) : nsum ln S n ≤ 4500 := by
  have := nsum_le (S := S) hnb n
  omega
theorem c_stepsFrom (hn : f 2 7 = nI n) (h9 : n ≤ 9) (hlk : ∀ i, f 7 i = nI (lk i)) (hlb : ∀ i, lk i ≤ 500) (hln : ∀ i, f 5 i = nI (ln i)) (hnb : ∀ i, ln i ≤ 500) {S v : Nat} (hS1 : 1 ≤ S) (hS : S < 2 ^ n) (hv : v < n) (hb : S.testBit v = true) (hT : COK lk ln n (f 9) S) : am_call 36 [.ref 2, .int (nI S), .int (nI v)] f = some (encW (nsum ln S n) (WK lk n S v), f) := by
  have h5 := pow9 h9
  have hd := drop_add (show S < 512 by omega) (show v < 9 by omega) hb
  have hdl := drop_lt (show S < 512 by omega) (show v < 9 by omega) hb
  have hsum := nsum_drop (g := ln) hv hb
  have hb1 := nln (ln := ln) (S := S) h9 hnb
  have hb2 := nln (ln := ln) (S := S ^^^ 2 ^ v) h9 hnb
  rw [eX4_stepsFrom_2, shl_one (by omega), nx_xor, WK_eq h9 (by omega) hv]
  by_cases h1 : S = 2 ^ v
  · have hz : S ^^^ 2 ^ v = 0 := by rw [h1, Nat.xor_self]
    rw [if_pos h1, hz, if_pos nI_0, am_ald_in _ _ _ (by omega) (by decide), hln, encW_some]
    rw [hz] at hsum
    have : nsum ln 0 n = 0 := by
      have h0 : ∀ m, nsum ln 0 m = 0 := by
        intro m
        induction m with
        | zero => rfl
        | succ m ih => rw [nsum, ih]; simp
      exact h0 n
    rw [show 0 + nsum ln S n = ln v by omega]
  · have hz : S ^^^ 2 ^ v ≠ 0 := by
      intro z
      rw [z] at hd
      omega
    rw [if_neg h1, hb, if_pos rfl, if_neg (nI_ne0 (by omega) (by omega))]
    have key : ∀ d i, i + d = n → am_run 36 24 [.ref 2, .null, .int (nI v), .int (nI (S ^^^ 2 ^ v)), .int (encW (nsum ln S n) (minO (wG lk n (S ^^^ 2 ^ v) v) i)), .int (nI i), .null, .null, .null] [] f = some (encW (nsum ln S n) (minO (wG lk n (S ^^^ 2 ^ v) v) n), f) := by
      intro d
      induction d with
      | zero =>
        intro i hi
        have hi : i = n := by omega
        subst hi
        rw [eX4_stepsFrom_24_2, hn, if_neg (nI_nlt (Nat.le_refl _) (by omega))]
      | succ d ih =>
        intro i hi
        have eC : f 9 ((S ^^^ 2 ^ v) * 9 + i) = encW (nsum ln (S ^^^ 2 ^ v) n) (WK lk n (S ^^^ 2 ^ v) i) := hT _ i (by omega) hdl (by omega)
        rw [eX4_stepsFrom_24_2, hn, if_pos (nI_lt (by omega) (by omega)), idx9, idx9, am_ald_in _ _ _ (by omega) (by decide), am_ald_in _ _ _ (by omega) (by decide), am_ald_in _ _ _ (by omega) (by decide), eC, hlk, hln, nI_1, ← ih (i + 1) (by omega), minO]
        have hgb := wG_min_lt (v := v) (i := i) h9 hlb (show S ^^^ 2 ^ v < 512 by omega) (by omega)
        generalize ho : minO (wG lk n (S ^^^ 2 ^ v) v) i = o at hgb ⊢
        have hl := hlb (9 * v + i)
        have e9 : v * 9 + i = 9 * v + i := by omega
        rw [e9]
        unfold wG
        by_cases h0 : 0 < lk (9 * v + i)
        · have h0' : (0 : Int32) < nI (lk (9 * v + i)) := by
            rw [← nI_0]
            exact nI_lt h0 (by omega)
          rw [if_pos h0']
          cases hw : WK lk n (S ^^^ 2 ^ v) i with
          | none =>
            rw [encW_none, if_neg (by decide)]
            simp [omin_none]
          | some z =>
            have hz2 := WK_lt h9 hlb (show S ^^^ 2 ^ v < 512 by omega) (show i < n by omega) z hw
            have hbit : (S ^^^ 2 ^ v).testBit i = true := by
              cases hq : (S ^^^ 2 ^ v).testBit i
              · rw [WK_no h9 (by omega) (by omega) hq] at hw
                cases hw
              · rfl
            have hmm := c_min (o := o) (x := lk (9 * v + i) + z) (off := nsum ln S n) (fun y hy => by have := hgb y hy; omega) (by omega)
            rw [encW_some, if_pos (show nI (z + nsum ln (S ^^^ 2 ^ v) n) < (1000000 : Int32) from nI_lt (b := 1000000) (by omega) (by decide)), nI_add, nI_add, hbit]
            rw [show ln v + lk (9 * v + i) + (z + nsum ln (S ^^^ 2 ^ v) n) = lk (9 * v + i) + z + nsum ln S n by omega]
            simp only [h0, Bool.true_and, decide_true, if_true, Option.map_some]
            rw [← hmm]
            split <;> rfl
        · have h0' : ¬ (0 : Int32) < nI (lk (9 * v + i)) := by
            have : lk (9 * v + i) = 0 := by omega
            rw [this]
            decide
          rw [if_neg h0']
          simp [h0, omin_none]
    have := key n 0 (by omega)
    rw [nI_0] at this
    exact this
/-- the walks are found: row 9 and row 8 -/
def LOK (lk ln : Nat → Nat) (n : Nat) (T : Nat → Int32) (k : Nat) : Prop := ∀ S, 1 ≤ S → S < k → T S = encW 0 (WS lk ln n S)
theorem encW_map (off : Nat) (o : Option Nat) : encW off o = encW 0 (o.map (· + off)) := by
  cases o <;> rfl
/-- the heap while the class finds its walks -/
def wH (f : Hp) (A B : Nat → Int32) : Hp := setC (setC f 9 A) 8 B
theorem wH_9 (A B : Nat → Int32) : wH f A B 9 = A := by
  unfold wH
  rw [setC_ne (by decide), setC_eq]
theorem wH_8 (A B : Nat → Int32) : wH f A B 8 = B := setC_eq _ _ _
theorem wH_ne {A B : Nat → Int32} {q : Nat} (h9 : q ≠ 9) (h8 : q ≠ 8) : wH f A B q = f q := by
  unfold wH
  rw [setC_ne h8, setC_ne h9]
theorem wH_up9 (A B : Nat → Int32) (j : Nat) (x : Int32) : am_up (wH f A B) 9 j x = wH f (upd A j x) B := by
  funext a
  by_cases h : a = 9
  · subst h
    rw [am_up_eq, wH_9, wH_9]
  · rw [am_up_ne h]
    unfold wH
    by_cases h8 : a = 8
    · subst h8
      rw [setC_eq, setC_eq]
    · rw [setC_ne h8, setC_ne h, setC_ne h8, setC_ne h]
theorem wH_up8 (A B : Nat → Int32) (j : Nat) (x : Int32) : am_up (wH f A B) 8 j x = wH f A (upd B j x) := up_setC _ _ _ _ _
theorem wH_self : wH f (f 9) (f 8) = f := by
  unfold wH
  rw [setC_self, setC_self]
theorem c_wa23 (hn : f 2 7 = nI n) (h9 : n ≤ 9) (hlk : ∀ i, f 7 i = nI (lk i)) (hlb : ∀ i, lk i ≤ 500) (hln : ∀ i, f 5 i = nI (ln i)) (hnb : ∀ i, ln i ≤ 500) {S : Nat} (hS1 : 1 ≤ S) (hS : S < 2 ^ n) : ∀ d i A B, i + d = n → COK lk ln n A S → (∀ v, v < i → A (S * 9 + v) = encW (nsum ln S n) (WK lk n S v)) → LOK lk ln n B S → ∃ A' B', am_run 35 23 [.ref 2, .int (nI S), .int (encW (nsum ln S n) (minO (wM lk n S) i)), .int (nI i), .null] [] (wH f A B) = am_run 35 10 [.ref 2, .int (nI (S + 1)), .null, .null, .null] [] (wH f A' B') ∧ COK lk ln n A' (S + 1) ∧ LOK lk ln n B' (S + 1) := by
  have h5 := pow9 h9
  have hb1 := nln (ln := ln) (S := S) h9 hnb
  have hmb : ∀ i, i ≤ n → ∀ x, minO (wM lk n S) i = some x → x < 4001 := fun i hi => minO_lt (fun k hk => by
    rw [wM_eq h9 (by omega) (by omega)]
    exact WK_lt h9 hlb (by omega) (by omega))
  intro d
  induction d with
  | zero =>
    intro i A B hi hA hv hB
    have hi : i = n := by omega
    subst hi
    refine ⟨A, upd B S (encW (nsum ln S i) (minO (wM lk i S) i)), ?_, ?_, ?_⟩
    · rw [eX4_walkAll_23_2, wH_ne (by decide) (by decide), hn, if_neg (nI_nlt (Nat.le_refl _) (by omega)), am_ast_in _ _ _ _ (by omega) (by decide), wH_up8, nI_1]
    · intro S' v h1 h2 h3
      rcases Nat.lt_succ_iff_lt_or_eq.mp h2 with h | h
      · exact hA S' v h1 h h3
      · rw [h]
        exact hv v h3
    · intro S' h1 h2
      by_cases h : S' = S
      · subst h
        rw [upd_same, encW_map, WS_eq]
      · rw [upd_ne h]
        exact hB S' h1 (by omega)
  | succ d ih =>
    intro i A B hi hA hv hB
    have step : ∀ x, x = encW (nsum ln S n) (WK lk n S i) → COK lk ln n (upd A (S * 9 + i) x) S ∧ ∀ v, v < i + 1 → (upd A (S * 9 + i) x) (S * 9 + v) = encW (nsum ln S n) (WK lk n S v) := by
      intro x hx
      refine ⟨fun S' v h1 h2 h3 => ?_, fun v h1 => ?_⟩
      · rw [upd_ne (by omega)]
        exact hA S' v h1 h2 h3
      · by_cases hvi : v = i
        · subst hvi
          rw [upd_same, hx]
        · rw [upd_ne (by omega)]
          exact hv v (by omega)
    have hsf : S.testBit i = true → am_call 36 [.ref 2, .int (nI S), .int (nI i)] (wH f A B) = some (encW (nsum ln S n) (WK lk n S i), wH f A B) := fun hb => c_stepsFrom (f := wH f A B) (by rw [wH_ne (by decide) (by decide)]; exact hn) h9 (by rw [wH_ne (by decide) (by decide)]; exact hlk) hlb (by rw [wH_ne (by decide) (by decide)]; exact hln) hnb hS1 hS (by omega) hb (by rw [wH_9]; exact hA)
    have hmin := a_min (o := minO (wM lk n S) i) (p := wM lk n S i) (off := nsum ln S n) (fun y hy => by have := hmb i (by omega) y hy; omega) (fun y hy => by
      rw [wM_eq h9 (by omega) (by omega)] at hy
      have := WK_lt h9 hlb (by omega) (by omega) y hy
      omega)
    rw [eX4_walkAll_23_2, wH_ne (by decide) (by decide), hn, if_pos (nI_lt (by omega) (by omega)), c_hasSide (by omega) (by omega), am_cal_some, idx9]
    simp only [bi_eq0]
    cases hb : S.testBit i
    · rw [if_pos rfl, am_ast_in _ _ _ _ (by omega) (by decide), wH_up9, nI_1]
      have hno := WK_no (lk := lk) h9 (show S < 512 by omega) (show i < n by omega) hb
      obtain ⟨s1, s2⟩ := step 1000000 (by rw [hno]; rfl)
      have hwm : wM lk n S i = none := by unfold wM; rw [hb]; rfl
      rw [hwm, encW_none] at hmin
      rw [hmin, ← hwm]
      exact ih (i + 1) _ B (by omega) s1 s2 hB
    · rw [if_neg (by simp), hsf hb, am_cal_some, am_ast_in _ _ _ _ (by omega) (by decide), wH_up9, nI_1]
      obtain ⟨s1, s2⟩ := step _ rfl
      rw [wM_eq h9 (by omega) (by omega)] at hmin
      have hm2 : omin (minO (wM lk n S) i) (WK lk n S i) = minO (wM lk n S) (i + 1) := by rw [minO, wM_eq h9 (by omega) (by omega)]
      rw [hmin, hm2]
      exact ih (i + 1) _ B (by omega) s1 s2 hB
/-- walks stand in the class's rows -/
def W1 (lk ln : Nat → Nat) (n : Nat) (f : Hp) : Prop := f 2 8 = 1 ∧ COK lk ln n (f 9) (2 ^ n) ∧ LOK lk ln n (f 8) (2 ^ n)
theorem c_walkAll0 (hn : f 2 7 = nI n) (h9 : n ≤ 9) (hlk : ∀ i, f 7 i = nI (lk i)) (hlb : ∀ i, lk i ≤ 500) (hln : ∀ i, f 5 i = nI (ln i)) (hnb : ∀ i, ln i ≤ 500) (hw : f 2 8 = 0) : ∃ A B, am_call 35 [.ref 2] f = some (0, am_up (wH f A B) 2 8 1) ∧ W1 lk ln n (am_up (wH f A B) 2 8 1) := by
  have h5 := pow9 h9
  have key : ∀ d S A B, S + d = 2 ^ n → 1 ≤ S → COK lk ln n A S → LOK lk ln n B S → ∃ A' B', am_run 35 10 [.ref 2, .int (nI S), .null, .null, .null] [] (wH f A B) = some (0, am_up (wH f A' B') 2 8 1) ∧ COK lk ln n A' (2 ^ n) ∧ LOK lk ln n B' (2 ^ n) := by
    intro d
    induction d with
    | zero =>
      intro S A B hS h1 hA hB
      have hS : S = 2 ^ n := by omega
      subst hS
      refine ⟨A, B, ?_, hA, hB⟩
      rw [eX4_walkAll_10_2, eX4_allSides_2, wH_ne (by decide) (by decide), hn, all_eq h9, am_cal_some, if_pos (nI_lt (by omega) (by omega)), am_z1]
    | succ d ih =>
      intro S A B hS h1 hA hB
      rw [eX4_walkAll_10_2, eX4_allSides_2, wH_ne (by decide) (by decide), hn, all_eq h9, am_cal_some, if_neg (nI_nlt (by omega) (by omega))]
      obtain ⟨A', B', e1, e2, e3⟩ := c_wa23 hn h9 hlk hlb hln hnb h1 (show S < 2 ^ n by omega) n 0 A B (by omega) hA (fun v hv => by omega) hB
      rw [nI_0] at e1
      have e0 : encW (nsum ln S n) (minO (wM lk n S) 0) = 1000000 := rfl
      rw [e0] at e1
      rw [e1]
      exact ih (S + 1) A' B' (by omega) (by omega) e2 e3
  obtain ⟨A, B, e1, e2, e3⟩ := key (2 ^ n - 1) 1 (f 9) (f 8) (by have := Nat.two_pow_pos n; omega) (Nat.le_refl 1) (fun S v h1 h2 h3 => by omega) (fun S h1 h2 => by omega)
  rw [wH_self] at e1
  refine ⟨A, B, ?_, ?_, ?_, ?_⟩
  · rw [eX4_walkAll_2, if_pos hw]
    exact e1
  · exact am_up_same _ _ _ _
  · rw [am_up_ne (by decide), wH_9]
    exact e2
  · rw [am_up_ne (by decide), wH_8]
    exact e3
theorem c_walkAll1 (hw : f 2 8 = 1) : am_call 35 [.ref 2] f = some (0, f) := by
  rw [eX4_walkAll_2, hw, if_neg (by decide)]
theorem c_leastWalk1 (hn : f 2 7 = nI n) (h9 : n ≤ 9) (hW : W1 lk ln n f) {S : Nat} (h1 : 1 ≤ S) (hS : S < 2 ^ n) : am_call 34 [.ref 2, .int (nI S)] f = some (encW 0 (WS lk ln n S), f) := by
  have h5 := pow9 h9
  have hwi : wi (nI S) 1 (nI (2 ^ n - 1)) = true := by
    unfold wi
    have a1 : (1 : Int32) ≤ nI S := nI_le (a := 1) h1 (by omega)
    have a2 : nI S ≤ nI (2 ^ n - 1) := nI_le (by omega) (by omega)
    simp [a1, a2]
  rw [eX4_leastWalk_2, eX4_allSides_2, hn, all_eq h9, am_cal_some, c_within', am_cal_some, hwi, if_neg (by decide), c_walkAll1 hW.1, am_cal_some, am_ald_in _ _ _ (by omega) (by decide), hW.2.2 S h1 hS]
end WalkC
