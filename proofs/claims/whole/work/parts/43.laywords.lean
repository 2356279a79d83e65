section LayW
variable {f : Hp} {n c : Nat} {lk ln sh mr : Nat → Nat} {l k : Nat}
/-- what stays while the reference lays words -/
def MWI (stand : Nat → Bool) (lk ln : Nat → Nat) (n c : Nat) (sh mr : Nat → Nat) (l k : Nat) (g : Hp) : Prop := MS n lk ln c g ∧ MRD mr (g 59) ∧ g 50 25 = nI k ∧ 1 ≤ k ∧ k ≤ 4 ∧ 2 ≤ l ∧ l ≤ 4 ∧ (∀ a, a < k → g 70 a = nI (sh a) ∧ sh a < 512) ∧ ∀ w, w < 36 → ∀ g' : Hp, g' 57 = g 57 → g' 58 = g 58 → am_call 158 [.ref 50, .int (nI w)] g' = some (bi (stand w), g')
/-- the two cells that change, and the least harm -/
def FRW (g g' : Hp) : Prop := (∀ q, q ≠ 50 → q ≠ 71 → q ≠ 72 → g' q = g q) ∧ ∀ j, j ≠ 27 → g' 50 j = g 50 j
theorem FRW.trans {g h j : Hp} (x : FRW g h) (y : FRW h j) : FRW g j := ⟨fun q p r s => by rw [y.1 q p r s, x.1 q p r s], fun i hi => by rw [y.2 i hi, x.2 i hi]⟩
theorem FRW.refl (g : Hp) : FRW g g := ⟨fun _ _ _ _ => rfl, fun _ _ => rfl⟩
theorem FRW.MWI {stand : Nat → Bool} {g h : Hp} (x : FRW g h) (m : MWI stand lk ln n c sh mr l k g) : MWI stand lk ln n c sh mr l k h := by
  obtain ⟨m1, m2, m3, m4, m5, m6, m7, m8, m9⟩ := m
  refine ⟨MS.keep m1 (x.2 0 (by decide)) (x.1 55 (by decide) (by decide) (by decide)) (x.1 53 (by decide) (by decide) (by decide)) (by rw [x.1 57 (by decide) (by decide) (by decide)]), by rw [x.1 59 (by decide) (by decide) (by decide)]; exact m2, by rw [x.2 25 (by decide)]; exact m3, m4, m5, m6, m7, by rw [x.1 70 (by decide) (by decide) (by decide)]; exact m8, fun w hw g' a b => m9 w hw g' (by rw [a, x.1 57 (by decide) (by decide) (by decide)]) (by rw [b, x.1 58 (by decide) (by decide) (by decide)])⟩
/-- the words with a greater place differ from that of i -/
def dfB (D : Nat → Nat) (i : Nat) : Nat → Nat → Bool
  | 0, _ => true
  | e + 1, j => !decide (D j = D i) && dfB D i e (j + 1)
theorem dfB_iff {D : Nat → Nat} {i : Nat} : ∀ {e j : Nat}, dfB D i e j = true ↔ ∀ x, j ≤ x → x < j + e → D x ≠ D i
  | 0, j => by
    simp only [dfB, true_iff]
    intro x h1 h2
    omega
  | e + 1, j => by
    rw [dfB, Bool.and_eq_true, dfB_iff]
    simp only [Bool.not_eq_true', decide_eq_false_iff_not]
    constructor
    · rintro ⟨h1, h2⟩ x hx1 hx2
      by_cases he : x = j
      · subst he; exact h1
      · exact h2 x (by omega) (by omega)
    · intro h
      exact ⟨h j (by omega) (by omega), fun x h1 h2 => h x (by omega) (by omega)⟩
/-- legal from the place i on, downwards -/
def lgD (stand : Nat → Bool) (D : Nat → Nat) (k : Nat) : Nat → Nat → Bool
  | 0, _ => true
  | e + 1, i => lgD stand D k e (i + 1) && (stand (D i) && dfB D i (k - (i + 1)) (i + 1))
theorem lgD_lgl {stand : Nat → Bool} {D : Nat → Nat} {k : Nat} : lgD stand D k k 0 = lgl stand D k := by
  have key : ∀ e i, i + e = k → (lgD stand D k e i = true ↔ (∀ j, i ≤ j → j < k → stand (D j) = true) ∧ ∀ a b, i ≤ a → a < b → b < k → D b ≠ D a) := by
    intro e
    induction e with
    | zero =>
      intro i hi
      simp only [lgD, true_iff]
      exact ⟨fun j h1 h2 => by omega, fun a b h1 h2 h3 => by omega⟩
    | succ e ih =>
      intro i hi
      rw [lgD, Bool.and_eq_true, Bool.and_eq_true, ih (i + 1) (by omega), dfB_iff]
      constructor
      · rintro ⟨⟨h1, h2⟩, h3, h4⟩
        refine ⟨fun j x y => ?_, fun a b x y z => ?_⟩
        · by_cases he : j = i
          · subst he; exact h3
          · exact h1 j (by omega) y
        · by_cases he : a = i
          · subst he; exact h4 b (by omega) (by omega)
          · exact h2 a b (by omega) y z
      · rintro ⟨h1, h2⟩
        exact ⟨⟨fun j x y => h1 j (by omega) y, fun a b x y z => h2 a b (by omega) y z⟩, h1 i (by omega) (by omega), fun x y z => h2 i x (by omega) (by omega) (by omega)⟩
  have h1 := key k 0 (by omega)
  have h2 := lgl_iff (stand := stand) (D := D) (i := k)
  cases ha : lgD stand D k k 0 <;> cases hb : lgl stand D k
  · rfl
  · exfalso
    rw [ha] at h1
    have := h2.mp hb
    have h3 := h1.mpr ⟨fun j _ hj => this.1 j hj, fun a b _ x y => Ne.symm (this.2 a b x y)⟩
    cases h3
  · exfalso
    rw [hb] at h2
    have := h1.mp ha
    have h3 := h2.mpr ⟨fun j hj => this.1 j (by omega) hj, fun a b x y => Ne.symm (this.2 a b (by omega) x y)⟩
    cases h3
  · rfl
end LayW
