/-- some number of i, i+1, .. (d of them) has p -/
def exR (p : Nat → Bool) : Nat → Nat → Bool
  | 0, _ => false
  | d + 1, i => p i || exR p d (i + 1)
def lnkV (lk : Nat → Nat) (n A B v : Nat) : Bool := A.testBit v && exR (fun u => B.testBit u && decide (0 < lk (9 * v + u))) n 0
def lnk (lk : Nat → Nat) (n A B : Nat) : Bool := exR (lnkV lk n A B) n 0
section Linked
variable {f : Hp} {n c : Nat} {lk ln : Nat → Nat}
theorem exR_false : ∀ d i, exR (fun _ => false) d i = false
  | 0, _ => rfl
  | d + 1, i => by rw [exR, exR_false d (i + 1)]; rfl
theorem c_areLinked (h : CS n lk ln c f) {A B : Nat} (hA : A < 512) (hB : B < 512) : am_call 33 [.ref 2, .int (nI A), .int (nI B)] f = some (bi (lnk lk n A B), f) := by
  obtain ⟨hn, h9, hlk, hlb, -⟩ := h
  have inner : ∀ v, v < n → ∀ d u, u + d = n → am_run 33 13 [.ref 2, .int (nI A), .int (nI B), .int (nI v), .int (nI u)] [] f = if A.testBit v && exR (fun u => B.testBit u && decide (0 < lk (9 * v + u))) d u then some (1, f) else am_run 33 2 [.ref 2, .int (nI A), .int (nI B), .int (nI (v + 1)), .null] [] f := by
    intro v hv d
    induction d with
    | zero =>
      intro u hu
      rw [eX4_areLinked_13_2, hn, if_neg (nI_nlt (by omega) (by omega)), nI_1, exR, Bool.and_false]
      rfl
    | succ d ih =>
      intro u hu
      have hl5 := hlb (9 * v + u)
      rw [eX4_areLinked_13_2, hn, if_pos (nI_lt (by omega) (by omega)), c_hasSide (by omega) (by omega), am_cal_some, c_hasSide (by omega) (by omega), am_cal_some, idx9, am_ald_in _ _ _ (show v * 9 + u < 81 by omega) (by decide), hlk, Nat.mul_comm v 9, nI_1, ih (u + 1) (by omega), exR]
      simp only [bi_eq0]
      by_cases hl0 : 0 < lk (9 * v + u)
      · have e := (show (0 : Int32) < nI (lk (9 * v + u)) from nI_lt (a := 0) hl0 (by omega))
        rw [if_pos e, am_z1]
        simp only [hl0, decide_true, Bool.and_true]
        cases A.testBit v <;> cases B.testBit u <;> simp
      · have e := (show ¬ (0 : Int32) < nI (lk (9 * v + u)) from nI_nlt (b := lk (9 * v + u)) (a := 0) (by omega) (by omega))
        rw [if_neg e]
        simp only [hl0, decide_false, Bool.and_false, Bool.false_or]
        cases A.testBit v <;> cases B.testBit u <;> simp
  have outer : ∀ d v, v + d = n → am_run 33 2 [.ref 2, .int (nI A), .int (nI B), .int (nI v), .null] [] f = some (bi (exR (lnkV lk n A B) d v), f) := by
    intro d
    induction d with
    | zero =>
      intro v hv
      rw [eX4_areLinked_2_2, hn, if_neg (nI_nlt (by omega) (by omega))]
      exact am_z0 _
    | succ d ih =>
      intro v hv
      have hi := inner v (by omega) n 0 (by omega)
      have hi' : am_run 33 13 [.ref 2, .int (nI A), .int (nI B), .int (nI v), .int 0] [] f = _ := hi
      rw [eX4_areLinked_2_2, hn, if_pos (nI_lt (by omega) (by omega)), hi', ih (v + 1) (by omega), exR]
      show (if lnkV lk n A B v then _ else _) = _
      cases lnkV lk n A B v <;> rfl
  rw [eX4_areLinked_2]
  exact outer n 0 (by omega)
theorem m_areLinked (h : MS n lk ln c f) {A B : Nat} (hA : A < 512) (hB : B < 512) : am_call 159 [.ref 50, .int (nI A), .int (nI B)] f = some (bi (lnk lk n A B), f) := by
  obtain ⟨hn, h9, hlk, hlb, -⟩ := h
  have inner : ∀ v, v < n → ∀ d u b, u + d = n → am_run 159 17 [.ref 50, .int (nI A), .int (nI B), .int (bi b), .int (nI v), .int (nI u)] [] f = am_run 159 5 [.ref 50, .int (nI A), .int (nI B), .int (bi (b || (A.testBit v && exR (fun u => B.testBit u && decide (0 < lk (9 * v + u))) d u))), .int (nI (v + 1)), .null] [] f := by
    intro v hv d
    induction d with
    | zero =>
      intro u b hu
      rw [eX9_areLinked_17_50, hn, if_neg (nI_nlt (by omega) (by omega)), nI_1, exR, Bool.and_false, Bool.or_false]
    | succ d ih =>
      intro u b hu
      have hl5 := hlb (9 * v + u)
      have i0 := ih (u + 1) false (by omega)
      have i1 := ih (u + 1) true (by omega)
      have i0' : am_run 159 17 [.ref 50, .int (nI A), .int (nI B), .int 0, .int (nI v), .int (nI (u + 1))] [] f = _ := i0
      have i1' : am_run 159 17 [.ref 50, .int (nI A), .int (nI B), .int 1, .int (nI v), .int (nI (u + 1))] [] f = _ := i1
      rw [eX9_areLinked_17_50, hn, if_pos (nI_lt (by omega) (by omega)), m_has (by omega) (by omega), am_cal_some, m_has (by omega) (by omega), am_cal_some, idx9', am_ald_in _ _ _ (show 9 * v + u < 81 by omega) (by decide), hlk, nI_1, i0', i1', exR]
      simp only [bi_eq0]
      by_cases hl0 : 0 < lk (9 * v + u)
      · have e := (show (0 : Int32) < nI (lk (9 * v + u)) from nI_lt (a := 0) hl0 (by omega))
        rw [if_pos e]
        simp only [hl0, decide_true, Bool.and_true]
        cases b <;> cases A.testBit v <;> cases B.testBit u <;> simp
      · have e := (show ¬ (0 : Int32) < nI (lk (9 * v + u)) from nI_nlt (b := lk (9 * v + u)) (a := 0) (by omega) (by omega))
        rw [if_neg e]
        simp only [hl0, decide_false, Bool.and_false, Bool.false_or]
        cases b <;> cases A.testBit v <;> cases B.testBit u <;> simp
  have outer : ∀ d v b, v + d = n → am_run 159 5 [.ref 50, .int (nI A), .int (nI B), .int (bi b), .int (nI v), .null] [] f = some (bi (b || exR (lnkV lk n A B) d v), f) := by
    intro d
    induction d with
    | zero =>
      intro v b hv
      rw [eX9_areLinked_5_50, hn, if_neg (nI_nlt (by omega) (by omega)), am_z_bi, exR, Bool.or_false]
    | succ d ih =>
      intro v b hv
      have hi := inner v (by omega) n 0 b (by omega)
      have hi' : am_run 159 17 [.ref 50, .int (nI A), .int (nI B), .int (bi b), .int (nI v), .int 0] [] f = _ := hi
      rw [eX9_areLinked_5_50, hn, if_pos (nI_lt (by omega) (by omega)), hi', ih (v + 1) _ (by omega), exR, Bool.or_assoc]
      rfl
  rw [eX9_areLinked_50]
  exact outer n 0 false (by omega)
end Linked
