/-- the load of a set of codes, counted by sides -/
def ldS (x ix : Nat → Nat) (n S : Nat) : Nat := smN (fun s => if S.testBit (ix s) then x s else 0) n
def tau (i1 i2 : Nat → Nat) (S : Nat) : Nat → Nat
  | 0 => 0
  | s + 1 => if S.testBit (i2 s) then tau i1 i2 S s ||| 2 ^ i1 s else tau i1 i2 S s
theorem tau_bit {i1 i2 : Nat → Nat} {S i : Nat} : ∀ {n : Nat}, (tau i1 i2 S n).testBit i = true ↔ ∃ s, s < n ∧ S.testBit (i2 s) = true ∧ i1 s = i
  | 0 => by
    rw [tau, Nat.zero_testBit]
    constructor
    · intro h; cases h
    · rintro ⟨s, h, -⟩; omega
  | n + 1 => by
    rw [tau]
    have ih := tau_bit (i1 := i1) (i2 := i2) (S := S) (i := i) (n := n)
    cases hb : S.testBit (i2 n)
    · simp only [Bool.false_eq_true, if_false]
      rw [ih]
      constructor
      · rintro ⟨s, a, b, c⟩; exact ⟨s, by omega, b, c⟩
      · rintro ⟨s, a, b, c⟩
        by_cases e : s = n
        · subst e; rw [hb] at b; cases b
        · exact ⟨s, by omega, b, c⟩
    · simp only [if_true]
      rw [Nat.testBit_or, Bool.or_eq_true, ih, Nat.testBit_two_pow]
      simp only [decide_eq_true_eq]
      constructor
      · rintro (⟨s, a, b, c⟩ | h)
        · exact ⟨s, by omega, b, c⟩
        · exact ⟨n, by omega, hb, h⟩
      · rintro ⟨s, a, b, c⟩
        by_cases e : s = n
        · subst e; exact Or.inr c
        · exact Or.inl ⟨s, by omega, b, c⟩
theorem smN_congr {g h : Nat → Nat} : ∀ {n : Nat}, (∀ i, i < n → g i = h i) → smN g n = smN h n
  | 0, _ => rfl
  | n + 1, hh => by rw [smN, smN, smN_congr (fun i hi => hh i (by omega)), hh n (by omega)]
section Perm
variable {i1 i2 x : Nat → Nat} {n c1 c2 b : Nat}
theorem tau_at (hi : ∀ s t, s < n → t < n → (i1 s = i1 t ↔ i2 s = i2 t)) {s S : Nat} (hs : s < n) : (tau i1 i2 S n).testBit (i1 s) = S.testBit (i2 s) := by
  cases hb : S.testBit (i2 s) with
  | true => exact tau_bit.mpr ⟨s, hs, hb, rfl⟩
  | false =>
    cases ht : (tau i1 i2 S n).testBit (i1 s) with
    | false => rfl
    | true =>
      obtain ⟨t, t1, t2, t3⟩ := tau_bit.mp ht
      rw [(hi t s t1 hs).mp t3, hb] at t2
      cases t2
theorem tau_off {S i : Nat} (h : ∀ s, s < n → i1 s ≠ i) : (tau i1 i2 S n).testBit i = false := by
  cases ht : (tau i1 i2 S n).testBit i with
  | false => rfl
  | true =>
    obtain ⟨t, t1, -, t3⟩ := tau_bit.mp ht
    exact absurd t3 (h t t1)
theorem tau_ext {A B : Nat} (hA : ∀ s, s < n → A.testBit (i1 s) = B.testBit (i1 s)) (h0 : ∀ i, (∀ s, s < n → i1 s ≠ i) → A.testBit i = B.testBit i) : A = B := by
  apply Nat.eq_of_testBit_eq
  intro i
  by_cases h : ∃ s, s < n ∧ i1 s = i
  · obtain ⟨s, h1, h2⟩ := h
    rw [← h2]
    exact hA s h1
  · exact h0 i (fun s hs e => h ⟨s, hs, e⟩)
theorem tau_ld (hi : ∀ s t, s < n → t < n → (i1 s = i1 t ↔ i2 s = i2 t)) (S : Nat) : ldS x i1 n (tau i1 i2 S n) = ldS x i2 n S := by
  unfold ldS
  exact smN_congr fun s hs => by rw [tau_at hi hs]
theorem tau_PT (hi : ∀ s t, s < n → t < n → (i1 s = i1 t ↔ i2 s = i2 t)) (h2 : ∀ i, i < c2 → ∃ s, s < n ∧ i2 s = i) : ∀ (a S h : Nat), S < 2 ^ c2 → PT b (ldS x i2 n) a S h → PT b (ldS x i1 n) a (tau i1 i2 S n) h := by
  intro a
  induction a with
  | zero =>
    rintro S h - ⟨e1, e2⟩
    refine ⟨?_, e2⟩
    subst e1
    apply Nat.eq_of_testBit_eq
    intro i
    rw [Nat.zero_testBit]
    cases ht : (tau i1 i2 0 n).testBit i with
    | false => rfl
    | true =>
      obtain ⟨t, -, t2, -⟩ := tau_bit.mp ht
      rw [Nat.zero_testBit] at t2
      cases t2
  | succ a ih =>
    rintro S h hS ⟨p, h', p1, p2, p3, p4, p5⟩
    have hadd := sub_add S p p2
    have hpS : ∀ i, p.testBit i = true → S.testBit i = true := by
      intro i hb
      have : (p &&& S).testBit i = true := by rw [p2]; exact hb
      rw [Nat.testBit_and] at this
      simp at this
      exact this.2
    refine ⟨tau i1 i2 p n, h', ?_, ?_, by rw [tau_ld hi]; exact p3, ?_, by rw [tau_ld hi]; exact p5⟩
    · intro e
      apply p1
      apply Nat.eq_of_testBit_eq
      intro i
      rw [Nat.zero_testBit]
      cases hb : p.testBit i with
      | false => rfl
      | true =>
        have hic : i < c2 := by
          rcases Nat.lt_or_ge i c2 with h | h
          · exact h
          · rw [lt_bit (show p < 2 ^ c2 by omega) h] at hb; cases hb
        obtain ⟨s, s1, s2⟩ := h2 i hic
        have := tau_at hi (S := p) s1
        rw [e, Nat.zero_testBit, s2, hb] at this
        cases this
    · apply tau_ext (n := n) (i1 := i1)
      · intro s hs
        rw [Nat.testBit_and, tau_at hi hs, tau_at hi hs]
        cases hb : p.testBit (i2 s) with
        | false => rfl
        | true => rw [hpS _ hb]; rfl
      · intro i h
        rw [Nat.testBit_and, tau_off h]
        rfl
    · have e : tau i1 i2 S n ^^^ tau i1 i2 p n = tau i1 i2 (S ^^^ p) n := by
        apply tau_ext (n := n) (i1 := i1)
        · intro s hs
          rw [Nat.testBit_xor, tau_at hi hs, tau_at hi hs, tau_at hi hs, Nat.testBit_xor]
        · intro i h
          rw [Nat.testBit_xor, tau_off h, tau_off h, tau_off h]
          rfl
      rw [e]
      exact ih (S ^^^ p) h' (by omega) p4
theorem tau_full (hi : ∀ s t, s < n → t < n → (i1 s = i1 t ↔ i2 s = i2 t)) (h1 : ∀ i, i < c1 → ∃ s, s < n ∧ i1 s = i) (b1 : ∀ s, s < n → i1 s < c1) (b2 : ∀ s, s < n → i2 s < c2) : tau i1 i2 (2 ^ c2 - 1) n = 2 ^ c1 - 1 := by
  apply tau_ext (n := n) (i1 := i1)
  · intro s hs
    rw [tau_at hi hs, Nat.testBit_two_pow_sub_one, Nat.testBit_two_pow_sub_one, decide_eq_true (b2 s hs), decide_eq_true (b1 s hs)]
  · intro i h
    rw [tau_off h, Nat.testBit_two_pow_sub_one]
    have : ¬ i < c1 := fun hc => by
      obtain ⟨s, s1, s2⟩ := h1 i hc
      exact h s s1 s2
    rw [decide_eq_false this]
theorem RB_le (hL : ∀ S, ldS x i1 n S < 1000000) (hL2 : ∀ S, ldS x i2 n S < 1000000) (hc1 : c1 ≤ 9) (hi : ∀ s t, s < n → t < n → (i1 s = i1 t ↔ i2 s = i2 t)) (h1 : ∀ i, i < c1 → ∃ s, s < n ∧ i1 s = i) (h2 : ∀ i, i < c2 → ∃ s, s < n ∧ i2 s = i) (b1 : ∀ s, s < n → i1 s < c1) (b2 : ∀ s, s < n → i2 s < c2) {k : Nat} (hk : RB b (ldS x i2 n) (2 ^ c2 - 1) = some k) : ∃ k', RB b (ldS x i1 n) (2 ^ c1 - 1) = some k' ∧ k' ≤ k := by
  have hp := RB_PT hL2 _ _ hk
  have hq := tau_PT (i1 := i1) hi h2 _ _ _ (by have := Nat.two_pow_pos c2; omega) hp
  rw [tau_full hi h1 b1 b2] at hq
  have h9 := pow9 hc1
  obtain ⟨k', e1, e2⟩ := PT_RB hL _ _ _ (by have := Nat.two_pow_pos c1; omega) hq
  exact ⟨k', e1, by omega⟩
/-- the order in which codes are counted changes nothing -/
theorem RB_perm (hL : ∀ S, ldS x i1 n S < 1000000) (hL2 : ∀ S, ldS x i2 n S < 1000000) (hc1 : c1 ≤ 9) (hc2 : c2 ≤ 9) (hi : ∀ s t, s < n → t < n → (i1 s = i1 t ↔ i2 s = i2 t)) (h1 : ∀ i, i < c1 → ∃ s, s < n ∧ i1 s = i) (h2 : ∀ i, i < c2 → ∃ s, s < n ∧ i2 s = i) (b1 : ∀ s, s < n → i1 s < c1) (b2 : ∀ s, s < n → i2 s < c2) : RB b (ldS x i1 n) (2 ^ c1 - 1) = RB b (ldS x i2 n) (2 ^ c2 - 1) := by
  have hi' : ∀ s t, s < n → t < n → (i2 s = i2 t ↔ i1 s = i1 t) := fun s t a b => (hi s t a b).symm
  cases ha : RB b (ldS x i1 n) (2 ^ c1 - 1) with
  | none =>
    cases hb : RB b (ldS x i2 n) (2 ^ c2 - 1) with
    | none => rfl
    | some k =>
      obtain ⟨k', e1, -⟩ := RB_le hL hL2 hc1 hi h1 h2 b1 b2 hb
      rw [ha] at e1
      cases e1
  | some k =>
    obtain ⟨k', e1, e2⟩ := RB_le hL2 hL hc2 hi' h2 h1 b2 b1 ha
    obtain ⟨k'', e3, e4⟩ := RB_le hL hL2 hc1 hi h1 h2 b1 b2 e1
    rw [ha] at e3
    have : k = k'' := Option.some.inj e3
    rw [e1, show k = k' by omega]
end Perm
