section ShapeOn
variable {f : Hp} {n c : Nat} {lk ln : Nat → Nat} {R : Nat → Bool} {Wt : Nat → Nat}
theorem shL_ne {F S : Nat} (hS : S ≠ 0) {z : Nat × Nat} (hK : KB R Wt S = some z) : shL R Wt (F + 1) S = z.2 :: shL R Wt F (S ^^^ z.2) := by
  rw [shL, if_neg hS, hK]
theorem c_shEx : ∀ F S i g, i + F = 9 → S < 2 ^ n → n ≤ 9 → (∀ T, 1 ≤ T → T < 2 ^ n → g 25 T = encP (KB R Wt T)) → KB R Wt S ≠ none → g 22 6 = nI i → ∃ g', am_run 23 121 [.ref 22, .null, .null, .null, .null, .int (nI S), .int (nI i)] [] g = some (0, g') ∧ (∀ q, q ≠ 22 → q ≠ 26 → g' q = g q) ∧ (∀ j, j ≠ 6 → g' 22 j = g 22 j) ∧ g' 22 6 = nI (i + (shL R Wt F S).length) ∧ (∀ j, j < i → g' 26 j = g 26 j) ∧ ∀ j, j < (shL R Wt F S).length → g' 26 (i + j) = nI ((shL R Wt F S).getD j 0) := by
  intro F
  induction F with
  | zero =>
    intro S i g hi hS h9 h25 hK h6
    refine ⟨g, ?_, fun _ _ _ => rfl, fun _ _ => rfl, h6, fun _ _ => rfl, fun j hj => absurd hj (Nat.not_lt_zero _)⟩
    rw [eX3_shapeOn_121_22, if_neg (show ¬ nI i < (9 : Int32) from nI_nlt (b := 9) (by omega) (by omega))]
  | succ F ih =>
    intro S i g hi hS h9 h25 hK h6
    have h5 := pow9 h9
    rw [eX3_shapeOn_121_22, if_pos (show nI i < (9 : Int32) from nI_lt (b := 9) (by omega) (by decide))]
    rcases Nat.eq_zero_or_pos S with h0 | h0
    · subst h0
      have e : shL R Wt (F + 1) 0 = [] := rfl
      rw [e]
      exact ⟨g, by rw [if_pos (by decide)], fun _ _ _ => rfl, fun _ _ => rfl, h6, fun _ _ => rfl, fun j hj => absurd hj (Nat.not_lt_zero _)⟩
    · cases hKS : KB R Wt S with
      | none => exact absurd hKS hK
      | some z =>
        obtain ⟨hc, hRz, z2, hz2, hk⟩ := KB_some (R := R) (Wt := Wt) (k := z.1) (p := z.2) h0 hKS
        have hlt := cnd_lt hc
        have hz9 : z.2 < 512 := by have := cnd_le hc; omega
        have e25 : g 25 S = nI z.2 := by rw [h25 S h0 hS, hKS]; rfl
        rw [if_neg (show ¬ nI S = 0 from fun h => by have := (nI_eq (a := S) (b := 0) (by omega) (by omega)).mp h; omega), am_ald_in _ _ _ (show S < 512 by omega) (by decide), am_ast_in _ _ _ _ (show i < 9 by omega) (by decide), am_ald_in _ _ _ (show i < 9 by omega) (by decide), am_up_same, e25, nx_xor, nI_1]
        obtain ⟨g', e1, e2, e3, e4, e5, e6⟩ := ih (S ^^^ z.2) (i + 1) (am_up (am_up g 26 i (nI z.2)) 22 6 ((am_up g 26 i (nI z.2)) 22 6 + 1)) (by omega) (by omega) h9 (fun T a b => by rw [am_up_ne (by decide), am_up_ne (by decide)]; exact h25 T a b) (by rw [hz2]; exact fun h => by cases h) (by rw [am_up_same, am_up_ne (by decide), h6, nI_1])
        rw [shL_ne (by omega) hKS]
        refine ⟨g', e1, fun q a b => ?_, fun j hj => ?_, ?_, fun j hj => ?_, fun j hj => ?_⟩
        · rw [e2 q a b, am_up_ne a, am_up_ne b]
        · rw [e3 j hj, am_up_j hj, am_up_ne (by decide)]
        · rw [e4, List.length_cons]
          congr 1
          omega
        · rw [e5 j (by omega), am_up_ne (by decide), am_up_j (by omega)]
        · cases j with
          | zero =>
            show g' 26 i = nI z.2
            rw [e5 i (by omega), am_up_ne (by decide), am_up_same]
          | succ j =>
            have := e6 j (by simpa using hj)
            rw [show i + (j + 1) = i + 1 + j by omega, this]
            rfl
def SH (R : Nat → Bool) (Wt : Nat → Nat) (n : Nat) : List Nat := match KB R Wt (2 ^ n - 1) with
  | none => []
  | some _ => shL R Wt 9 (2 ^ n - 1)
def SW (R : Nat → Bool) (Wt : Nat → Nat) (n : Nat) : Nat := match KB R Wt (2 ^ n - 1) with
  | none => 0
  | some z => z.1 % 1000000
/-- the shaper holds the shapes -/
def SV (R : Nat → Bool) (Wt : Nat → Nat) (n : Nat) (g : Hp) : Prop := (∀ p, 1 ≤ p → p < 2 ^ n → g 23 p = bi (R p)) ∧ g 22 6 = nI (SH R Wt n).length ∧ g 22 7 = nI (SW R Wt n) ∧ ∀ j, j < (SH R Wt n).length → g 26 j = nI ((SH R Wt n).getD j 0)
theorem c_shEnd {g : Hp} {day later most : Int32} (h9 : n ≤ 9) (hWb : ∀ S, S < 2 ^ n → R S = true → Wt S ≤ 1000 * cnt S n) (hrk : RK R Wt (2 ^ n) g) : ∃ g', am_run 23 37 [.ref 22, .int day, .int (nI (2 ^ n - 1)), .int later, .int most, .int (nI (2 ^ n)), .null] [] g = some (0, g') ∧ (∀ q, q ≠ 22 → q ≠ 26 → g' q = g q) ∧ (∀ j, j ≠ 6 → j ≠ 7 → j ≠ 8 → g' 22 j = g 22 j) ∧ g' 22 8 = day ∧ SV R Wt n g' := by
  have h5 := pow9 h9
  have hp := Nat.two_pow_pos n
  rw [eX3_shapeOn_37_22, if_pos (nI_lt (by omega) (by omega))]
  generalize hg1 : am_up (am_up (am_up g 22 6 0) 22 7 0) 22 8 day = g1
  have h1 : ∀ q, q ≠ 22 → g1 q = g q := fun q h => by rw [← hg1, am_up_ne h, am_up_ne h, am_up_ne h]
  have h2 : ∀ j, j ≠ 6 → j ≠ 7 → j ≠ 8 → g1 22 j = g 22 j := fun j a b d => by rw [← hg1, am_up_j d, am_up_j b, am_up_j a]
  have h8 : g1 22 8 = day := by rw [← hg1, am_up_same]
  have h7 : g1 22 7 = 0 := by rw [← hg1, am_up_j (by decide), am_up_same]
  have h6 : g1 22 6 = 0 := by rw [← hg1, am_up_j (by decide), am_up_j (by decide), am_up_same]
  by_cases hn0 : n = 0
  · subst hn0
    refine ⟨g1, by rw [if_pos (by decide)], fun q a _ => h1 q a, h2, h8, fun p a b => absurd b (by omega), h6, h7, fun j hj => absurd hj (Nat.not_lt_zero _)⟩
  · have hn2 : 2 ≤ 2 ^ n := by
      have : 2 ^ 1 ≤ 2 ^ n := Nat.pow_le_pow_right (by decide) (by omega)
      omega
    rw [if_neg (show ¬ nI (2 ^ n - 1) = 0 from fun h => by have := (nI_eq (a := 2 ^ n - 1) (b := 0) (by omega) (by omega)).mp h; omega), am_ald_in _ _ _ (show 2 ^ n - 1 < 512 by omega) (by decide), h1 24 (by decide), hrk.2.1 _ (by omega)]
    cases hK : KB R Wt (2 ^ n - 1) with
    | none =>
      rw [encK_none, if_neg (by decide)]
      have eH : SH R Wt n = [] := by unfold SH; rw [hK]
      have eW : SW R Wt n = 0 := by unfold SW; rw [hK]
      refine ⟨g1, rfl, fun q a _ => h1 q a, h2, h8, fun p a b => ?_, by rw [h6, eH]; rfl, by rw [h7, eW]; rfl, fun j hj => ?_⟩
      · rw [h1 23 (by decide)]; exact hrk.1 p a b
      · rw [eH] at hj; exact absurd hj (Nat.not_lt_zero _)
    | some z =>
      have hz := KB_lt h9 hWb (S := 2 ^ n - 1) (k := z.1) (p := z.2) (by omega) hK
      have eH : SH R Wt n = shL R Wt 9 (2 ^ n - 1) := by unfold SH; rw [hK]
      have eW : SW R Wt n = z.1 % 1000000 := by unfold SW; rw [hK]
      rw [encK_some, if_pos (show nI z.1 < (100000000 : Int32) from nI_lt (b := 100000000) (by omega) (by decide)), am_ald_in _ _ _ (show 2 ^ n - 1 < 512 by omega) (by decide), h1 24 (by decide), hrk.2.1 _ (by omega), hK, encK_some]
      have ed : nI z.1 - nI z.1 / 1000000 * 1000000 = nI (z.1 % 1000000) := pk_rem (by omega) (by decide) (by decide)
      rw [ed]
      unfold am_dv
      rw [if_neg (by decide)]
      obtain ⟨g', e1, e2, e3, e4, e5, e6⟩ := c_shEx (R := R) (Wt := Wt) (n := n) 9 (2 ^ n - 1) 0 (am_up g1 22 7 (nI (z.1 % 1000000))) (by decide) (by omega) h9 (fun T a b => by rw [am_up_ne (by decide), h1 25 (by decide)]; exact hrk.2.2 T a b) (by rw [hK]; exact fun h => by cases h) (by rw [am_up_j (by decide), h6]; rfl)
      refine ⟨g', e1, fun q a b => ?_, fun j a b d => ?_, ?_, fun p a b => ?_, ?_, ?_, fun j hj => ?_⟩
      · rw [e2 q a b, am_up_ne a, h1 q a]
      · rw [e3 j a, am_up_j b, h2 j a b d]
      · rw [e3 8 (by decide), am_up_j (by decide), h8]
      · rw [e2 23 (by decide) (by decide), am_up_ne (by decide), h1 23 (by decide)]; exact hrk.1 p a b
      · rw [e4, eH, Nat.zero_add]
      · rw [e3 7 (by decide), am_up_same, eW]
      · rw [eH] at hj ⊢
        have := e6 j hj
        rwa [Nat.zero_add] at this
end ShapeOn
