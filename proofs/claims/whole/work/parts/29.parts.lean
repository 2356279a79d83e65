theorem sub_add : ∀ (S p : Nat), p &&& S = p → (S ^^^ p) + p = S := by
  intro S
  induction S using Nat.strongRecOn with
  | _ S ih =>
    intro p h
    rcases Nat.eq_zero_or_pos S with h0 | h0
    · subst h0
      have : p = 0 := by rw [← h]; simp
      subst this
      rfl
    · have h2 : (p / 2) &&& (S / 2) = p / 2 := by rw [← Nat.and_div_two, h]
      have ih2 := ih (S / 2) (by omega) (p / 2) h2
      have e1 : (S ^^^ p) / 2 = S / 2 ^^^ p / 2 := Nat.xor_div_two
      have e2 : (S ^^^ p) % 2 = (S % 2) ^^^ (p % 2) := by
        have := Nat.xor_mod_two_pow (a := S) (b := p) (n := 1)
        simpa using this
      have e3 : (p &&& S) % 2 = (p % 2) &&& (S % 2) := by
        have := Nat.and_mod_two_pow (a := p) (b := S) (n := 1)
        simpa using this
      rw [h] at e3
      have hs : S % 2 = 0 ∨ S % 2 = 1 := by omega
      have hp : p % 2 = 0 ∨ p % 2 = 1 := by omega
      have x0 : (0 : Nat) ^^^ 0 = 0 := rfl
      have x1 : (0 : Nat) ^^^ 1 = 1 := rfl
      have x2 : (1 : Nat) ^^^ 0 = 1 := rfl
      have x3 : (1 : Nat) ^^^ 1 = 0 := rfl
      have y0 : (0 : Nat) &&& 0 = 0 := rfl
      have y1 : (0 : Nat) &&& 1 = 0 := rfl
      have y2 : (1 : Nat) &&& 0 = 0 := rfl
      have y3 : (1 : Nat) &&& 1 = 1 := rfl
      rcases hs with hs | hs <;> rcases hp with hp | hp <;> rw [hs, hp] at e2 <;> rw [hs, hp] at e3 <;> simp only [x0, x1, x2, x3, y0, y1, y2, y3] at e2 e3 <;> omega
theorem cnd_and {S p : Nat} (h : cnd S p = true) : p &&& S = p := by
  unfold cnd at h
  simp only [Bool.and_eq_true, beq_iff_eq] at h
  exact h.1
theorem cnd_lt {S p : Nat} (h : cnd S p = true) : S ^^^ p < S := by
  have h1 := sub_add S p (cnd_and h)
  have h2 := cnd_le h
  omega
theorem upF_congr {g h : Nat → Option Nat} : ∀ {k : Nat}, (∀ p, p < k → g p = h p) → upF g k = upF h k
  | 0, _ => rfl
  | k + 1, hh => by
    rw [upF, upF, upF_congr (fun p hp => hh p (by omega))]
    unfold up
    rw [hh k (by omega)]
section Parts
variable {R : Nat → Bool} {Wt : Nat → Nat}
/-- what part p of S would come to -/
def gF (R : Nat → Bool) (Wt : Nat → Nat) (K : Nat → Option (Nat × Nat)) (S p : Nat) : Option Nat := if cnd S p && R p then (K (S ^^^ p)).map (fun z => z.1 + 1000000 + Wt p) else none
def kF (R : Nat → Bool) (Wt : Nat → Nat) : Nat → Nat → Option (Nat × Nat)
  | 0, _ => none
  | F + 1, S => if S = 0 then some (0, 0) else upF (gF R Wt (kF R Wt F) S) (S + 1)
/-- the fewest parts, the least walks, the least part with the lowest side -/
def KB (R : Nat → Bool) (Wt : Nat → Nat) (S : Nat) : Option (Nat × Nat) := kF R Wt (S + 1) S
theorem gF_congr {K K' : Nat → Option (Nat × Nat)} {S : Nat} (h : ∀ T, T < S → K T = K' T) (p : Nat) : gF R Wt K S p = gF R Wt K' S p := by
  unfold gF
  cases hc : cnd S p
  · rfl
  · rw [h _ (cnd_lt hc)]
theorem kF_eq : ∀ (S F : Nat), S < F → kF R Wt F S = KB R Wt S := by
  intro S
  induction S using Nat.strongRecOn with
  | _ S ih =>
    intro F hF
    unfold KB
    cases F with
    | zero => omega
    | succ F =>
      rw [kF, kF]
      by_cases h0 : S = 0
      · rw [if_pos h0, if_pos h0]
      · rw [if_neg h0, if_neg h0]
        refine upF_congr fun p _ => gF_congr (fun T hT => ?_) p
        rw [ih T hT F (by omega), ih T hT S hT]
theorem KB_0 : KB R Wt 0 = some (0, 0) := rfl
theorem KB_eq {S : Nat} (h : 1 ≤ S) : KB R Wt S = upF (gF R Wt (KB R Wt) S) (S + 1) := by
  unfold KB
  rw [kF, if_neg (by omega)]
  refine upF_congr fun p _ => gF_congr (fun T hT => kF_eq T S hT) p
theorem gF_cnd {K : Nat → Option (Nat × Nat)} {S : Nat} : ∀ p, gF R Wt K S p ≠ none → cnd S p = true := by
  intro p h
  unfold gF at h
  cases hc : cnd S p
  · rw [hc] at h
    exact absurd rfl h
  · rfl
theorem KB_best {S : Nat} (h : 1 ≤ S) : BestOn (fun _ => True) (gF R Wt (KB R Wt) S) (KB R Wt S) := by
  rw [KB_eq h]
  exact best_up (S := S) gF_cnd (by omega)
theorem KB_some {S k p : Nat} (h : 1 ≤ S) (hk : KB R Wt S = some (k, p)) : cnd S p = true ∧ R p = true ∧ ∃ z, KB R Wt (S ^^^ p) = some z ∧ k = z.1 + 1000000 + Wt p := by
  have hb := KB_best (R := R) (Wt := Wt) h
  rw [hk] at hb
  have h2 : gF R Wt (KB R Wt) S p = some k := hb.2.1
  unfold gF at h2
  cases hc : cnd S p
  · rw [hc] at h2; cases h2
  · cases hr : R p
    · rw [hc, hr] at h2; cases h2
    · rw [hc, hr] at h2
      refine ⟨rfl, rfl, ?_⟩
      cases hz : KB R Wt (S ^^^ p) with
      | none => rw [hz] at h2; cases h2
      | some z =>
        rw [hz] at h2
        exact ⟨z, rfl, (Option.some.inj h2).symm⟩
/-- its number in two: parts and walks -/
theorem KB_dec {n : Nat} (hW : ∀ S, S < 2 ^ n → R S = true → Wt S ≤ 1000 * cnt S n) : ∀ S, S < 2 ^ n → ∀ k p, KB R Wt S = some (k, p) → ∃ a w, k = a * 1000000 + w ∧ w ≤ 1000 * cnt S n ∧ a ≤ cnt S n ∧ (1 ≤ S → 1 ≤ a) := by
  intro S
  induction S using Nat.strongRecOn with
  | _ S ih =>
    intro hS k p hk
    rcases Nat.eq_zero_or_pos S with h0 | h0
    · subst h0
      rw [KB_0] at hk
      cases hk
      exact ⟨0, 0, rfl, by omega, by omega, by omega⟩
    · obtain ⟨hc, hr, z, hz, hkz⟩ := KB_some h0 hk
      have hlt := cnd_lt hc
      have hle := cnd_le hc
      obtain ⟨a, w, e1, e2, e3, -⟩ := ih _ hlt (by omega) z.1 z.2 hz
      have hw := hW p (by omega) hr
      have hadd := nsum_add (g := fun _ => 1) (cnd_sub hc) n
      have hp1 : 1 ≤ cnt p n := by
        unfold cnt
        rcases Nat.eq_zero_or_pos (nsum (fun _ => 1) p n) with hz0 | hz0
        · exfalso
          have hall : ∀ m, m ≤ n → nsum (fun _ => 1) p m = 0 → ∀ i, i < m → p.testBit i = false := by
            intro m
            induction m with
            | zero => intro _ _ i hi; omega
            | succ m ihm =>
              intro hm h0 i hi
              rw [nsum] at h0
              by_cases him : i = m
              · subst him
                cases hb : p.testBit i
                · rfl
                · rw [hb] at h0; simp at h0
              · exact ihm (by omega) (by omega) i (by omega)
          have hz1 := hall n (Nat.le_refl n) hz0
          have : p = 0 := by
            apply Nat.eq_of_testBit_eq
            intro i
            rw [Nat.zero_testBit]
            by_cases hi : i < n
            · exact hz1 i hi
            · exact lt_bit (show p < 2 ^ n by omega) (by omega)
          omega
        · exact hz0
      unfold cnt at *
      refine ⟨a + 1, w + Wt p, by omega, by omega, by omega, fun _ => by omega⟩
theorem KB_lt {n : Nat} (h9 : n ≤ 9) (hW : ∀ S, S < 2 ^ n → R S = true → Wt S ≤ 1000 * cnt S n) {S k p : Nat} (hS : S < 2 ^ n) (hk : KB R Wt S = some (k, p)) : k < 9100000 ∧ k % 1000000 ≤ 9000 ∧ k / 1000000 ≤ 9 := by
  obtain ⟨a, w, e1, e2, e3, -⟩ := KB_dec hW S hS k p hk
  have := cnt_le S n
  have ha : k / 1000000 = a := by omega
  omega
end Parts
theorem low_F : ∀ S : Fin 512, lowb S.val &&& S.val = lowb S.val ∧ (S.val ≠ 0 → lowb S.val ≠ 0) := by decide +kernel
theorem low_sub {S : Nat} (hS : S < 512) : lowb S &&& S = lowb S := (low_F ⟨S, hS⟩).1
theorem low_ne {S : Nat} (h1 : 1 ≤ S) (hS : S < 512) : lowb S ≠ 0 := (low_F ⟨S, hS⟩).2 (by show S ≠ 0; omega)
theorem cnd_of {S m : Nat} (h1 : 1 ≤ S) (hS : S < 512) (hm : m &&& (S ^^^ lowb S) = m) : cnd S (m ||| lowb S) = true := by
  have hl := low_sub hS
  have hb : ∀ i, (lowb S).testBit i = true → S.testBit i = true := by
    intro i hi
    have : (lowb S &&& S).testBit i = true := by rw [hl]; exact hi
    rw [Nat.testBit_and] at this
    simp at this
    exact this.2
  have hmb : ∀ i, m.testBit i = true → S.testBit i = true := by
    intro i hi
    have : (m &&& (S ^^^ lowb S)).testBit i = true := by rw [hm]; exact hi
    rw [Nat.testBit_and, Nat.testBit_xor] at this
    cases h2 : S.testBit i
    · cases h3 : (lowb S).testBit i
      · rw [h2, h3] at this; simp at this
      · rw [hb i h3] at h2; cases h2
    · rfl
  unfold cnd
  rw [Bool.and_eq_true]
  refine ⟨?_, ?_⟩
  · rw [beq_iff_eq]
    apply Nat.eq_of_testBit_eq
    intro i
    rw [Nat.testBit_and, Nat.testBit_or]
    have h2 := hb i
    have h3 := hmb i
    cases h4 : m.testBit i <;> cases h5 : (lowb S).testBit i <;> simp_all
  · rw [bne_iff_ne]
    intro hz
    have h2 : (m ||| lowb S) &&& lowb S = lowb S := by
      apply Nat.eq_of_testBit_eq
      intro i
      rw [Nat.testBit_and, Nat.testBit_or]
      cases (lowb S).testBit i <;> simp
    rw [h2] at hz
    exact low_ne h1 hS hz
theorem and_sub (x o : Nat) : (x &&& o) &&& o = x &&& o := by
  rw [Nat.and_assoc, Nat.and_self]
