def setD (D : Nat → Nat) (i d : Nat) : Nat → Nat := fun j => if j = i then d else D j
theorem setD_eq (D : Nat → Nat) (i d : Nat) : setD D i d i = d := by unfold setD; rw [if_pos rfl]
theorem setD_ne {D : Nat → Nat} {i d j : Nat} (h : j ≠ i) : setD D i d j = D j := by unfold setD; rw [if_neg h]
def fo {α : Type} (g : Nat → α → α) : Nat → α → α
  | 0, a => a
  | d + 1, a => g d (fo g d a)
section Search
variable {stand : Nat → Bool} {hm : Nat → Nat → Nat → Nat → Nat}
def neqB (D : Nat → Nat) (d : Nat) : Nat → Bool
  | 0 => true
  | i + 1 => neqB D d i && !decide (D i = d)
def lgl (stand : Nat → Bool) (D : Nat → Nat) : Nat → Bool
  | 0 => true
  | j + 1 => lgl stand D j && (stand (D j) && neqB D (D j) j)
def hl (hm : Nat → Nat → Nat → Nat → Nat) (D : Nat → Nat) (j : Nat) : Nat → Nat
  | 0 => 0
  | i + 1 => hl hm D j i + hm i j (D i) (D j)
def hs (hm : Nat → Nat → Nat → Nat → Nat) (D : Nat → Nat) : Nat → Nat
  | 0 => 0
  | j + 1 => hs hm D j + hl hm D j j
abbrev WAcc := Option (Nat × (Nat → Nat))
def wput (acc : WAcc) (h : Nat) (D : Nat → Nat) : WAcc := match acc with
  | none => some (h, D)
  | some z => if h < z.1 then some (h, D) else some z
def dfs (stand : Nat → Bool) (hm : Nat → Nat → Nat → Nat → Nat) (B : Nat) : Nat → Nat → (Nat → Nat) → WAcc → WAcc
  | 0, a, D, acc => if lgl stand D a then wput acc (hs hm D a) D else acc
  | m + 1, a, D, acc => fo (fun d acc => dfs stand hm B m (a + 1) (setD D a d) acc) B acc
theorem neqB_congr {D E : Nat → Nat} {d : Nat} : ∀ {i : Nat}, (∀ j, j < i → D j = E j) → neqB D d i = neqB E d i
  | 0, _ => rfl
  | i + 1, h => by rw [neqB, neqB, h i (by omega), neqB_congr (fun j hj => h j (by omega))]
theorem lgl_congr {D E : Nat → Nat} : ∀ {i : Nat}, (∀ j, j < i → D j = E j) → lgl stand D i = lgl stand E i
  | 0, _ => rfl
  | i + 1, h => by rw [lgl, lgl, h i (by omega), lgl_congr (fun j hj => h j (by omega)), neqB_congr (fun j hj => h j (by omega))]
theorem hl_congr {D E : Nat → Nat} {j : Nat} (hj : D j = E j) : ∀ {i : Nat}, (∀ j, j < i → D j = E j) → hl hm D j i = hl hm E j i
  | 0, _ => rfl
  | i + 1, h => by rw [hl, hl, h i (by omega), hj, hl_congr hj (fun j hj => h j (by omega))]
theorem hs_congr {D E : Nat → Nat} : ∀ {i : Nat}, (∀ j, j < i → D j = E j) → hs hm D i = hs hm E i
  | 0, _ => rfl
  | i + 1, h => by rw [hs, hs, hs_congr (fun j hj => h j (by omega)), hl_congr (h i (by omega)) (fun j hj => h j (by omega))]
theorem setD_lt {D : Nat → Nat} {a d : Nat} : ∀ j, j < a → setD D a d j = D j := fun j hj => setD_ne (by omega)
theorem lgl_setD (D : Nat → Nat) (a d : Nat) : lgl stand (setD D a d) (a + 1) = (lgl stand D a && (stand d && neqB D d a)) := by
  rw [lgl, lgl_congr setD_lt, setD_eq, neqB_congr setD_lt]
theorem hs_setD (D : Nat → Nat) (a d : Nat) : hs hm (setD D a d) (a + 1) = hs hm D a + hl hm (setD D a d) a a := by
  rw [hs, hs_congr setD_lt]
theorem fo_id {α : Type} {g : Nat → α → α} {a : α} : ∀ {n : Nat}, (∀ d, d < n → g d a = a) → fo g n a = a
  | 0, _ => rfl
  | n + 1, h => by rw [fo, fo_id (fun d hd => h d (by omega)), h n (by omega)]
theorem dfs_no {B : Nat} : ∀ (m a : Nat) (D : Nat → Nat) (acc : WAcc), lgl stand D a = false → dfs stand hm B m a D acc = acc
  | 0, a, D, acc, h => by rw [dfs, h]; rfl
  | m + 1, a, D, acc, h => by
    rw [dfs]
    refine fo_id fun d _ => dfs_no m (a + 1) _ acc ?_
    rw [lgl_setD, h]
    rfl
theorem dfs_cut {B : Nat} : ∀ (m a : Nat) (D : Nat → Nat) (z : Nat × (Nat → Nat)), z.1 ≤ hs hm D a → dfs stand hm B m a D (some z) = some z
  | 0, a, D, z, h => by
    rw [dfs]
    split
    · unfold wput
      simp only [show ¬ hs hm D a < z.1 by omega, if_false]
    · rfl
  | m + 1, a, D, z, h => by
    rw [dfs]
    refine fo_id fun d _ => dfs_cut m (a + 1) _ z ?_
    rw [hs_setD]
    omega
/-- the number whose figures, on base B, are D 0, D 1, .. -/
def val (B : Nat) (D : Nat → Nat) : Nat → Nat
  | 0 => 0
  | i + 1 => val B D i * B + D i
theorem val_congr {B : Nat} {D E : Nat → Nat} : ∀ {i : Nat}, (∀ j, j < i → D j = E j) → val B D i = val B E i
  | 0, _ => rfl
  | i + 1, h => by rw [val, val, h i (by omega), val_congr (fun j hj => h j (by omega))]
theorem val_div {B : Nat} {D : Nat → Nat} (hB : 0 < B) {i : Nat} (h : D i < B) : val B D (i + 1) / B = val B D i ∧ val B D (i + 1) % B = D i := by
  rw [val]
  constructor
  · rw [Nat.mul_comm, Nat.mul_add_div hB, Nat.div_eq_of_lt h, Nat.add_zero]
  · rw [Nat.mul_comm, Nat.mul_add_mod, Nat.mod_eq_of_lt h]
theorem val_lt {B : Nat} {D : Nat → Nat} (hB : 0 < B) : ∀ {i : Nat}, (∀ j, j < i → D j < B) → val B D i < B ^ i
  | 0, _ => by rw [val, Nat.pow_zero]; omega
  | i + 1, h => by
    have h1 := val_lt hB (i := i) (fun j hj => h j (by omega))
    have h2 := h i (by omega)
    rw [val, Nat.pow_succ]
    have : (val B D i + 1) * B ≤ B ^ i * B := Nat.mul_le_mul_right B h1
    rw [Nat.add_mul, Nat.one_mul] at this
    omega
theorem val_setD {B : Nat} (D : Nat → Nat) (a d : Nat) : val B (setD D a d) (a + 1) = val B D a * B + d := by
  rw [val, val_congr setD_lt, setD_eq]
/-- what is legal, as a whole -/
theorem neqB_iff {D : Nat → Nat} {d : Nat} : ∀ {i : Nat}, neqB D d i = true ↔ ∀ j, j < i → D j ≠ d
  | 0 => by simp [neqB]
  | i + 1 => by
    rw [neqB, Bool.and_eq_true, neqB_iff]
    simp only [Bool.not_eq_true', decide_eq_false_iff_not]
    constructor
    · rintro ⟨h1, h2⟩ j hj
      by_cases e : j = i
      · subst e; exact h2
      · exact h1 j (by omega)
    · intro h
      exact ⟨fun j hj => h j (by omega), h i (by omega)⟩
theorem lgl_iff {D : Nat → Nat} : ∀ {i : Nat}, lgl stand D i = true ↔ (∀ j, j < i → stand (D j) = true) ∧ ∀ a b, a < b → b < i → D a ≠ D b
  | 0 => by simp [lgl]
  | i + 1 => by
    rw [lgl, Bool.and_eq_true, Bool.and_eq_true, lgl_iff, neqB_iff]
    constructor
    · rintro ⟨⟨h1, h2⟩, h3, h4⟩
      refine ⟨fun j hj => ?_, fun a b hab hb => ?_⟩
      · by_cases e : j = i
        · subst e; exact h3
        · exact h1 j (by omega)
      · by_cases e : b = i
        · subst e; exact h4 a hab
        · exact h2 a b hab (by omega)
    · rintro ⟨h1, h2⟩
      exact ⟨⟨fun j hj => h1 j (by omega), fun a b hab hb => h2 a b hab (by omega)⟩, h1 i (by omega), fun j hj => h2 j i hj (by omega)⟩
/-- how many stand below d -/
def cx (stand : Nat → Bool) : Nat → Nat
  | 0 => 0
  | d + 1 => cx stand d + if stand d then 1 else 0
theorem cx_mono {a b : Nat} (h : a ≤ b) : cx stand a ≤ cx stand b := by
  induction b with
  | zero =>
    have : a = 0 := by omega
    subst this
    exact Nat.le_refl _
  | succ b ih =>
    by_cases e : a = b + 1
    · subst e; exact Nat.le_refl _
    · have := ih (by omega)
      rw [cx]
      omega
theorem cx_inj {a b : Nat} (ha : stand a = true) (hb : stand b = true) : cx stand a = cx stand b ↔ a = b := by
  constructor
  · intro h
    have key : ∀ x y, stand x = true → x < y → cx stand x < cx stand y := by
      intro x y hx hxy
      have h1 : cx stand (x + 1) ≤ cx stand y := cx_mono hxy
      rw [cx, hx] at h1
      simp only [if_true] at h1
      omega
    rcases Nat.lt_trichotomy a b with hl | he | hl
    · have := key a b ha hl; omega
    · exact he
    · have := key b a hb hl; omega
  · intro h; rw [h]
theorem cx_le : ∀ d, cx stand d ≤ d
  | 0 => Nat.le_refl 0
  | d + 1 => by
    have := cx_le d
    rw [cx]
    split <;> omega
theorem dfs_all {B m a : Nat} {D : Nat → Nat} {P : WAcc → Prop} (hP : ∀ E, (∀ j, j < a → E j = D j) → (∀ j, a ≤ j → j < a + m → E j < B) → lgl stand E (a + m) = true → ∀ acc, P acc → P (wput acc (hs hm E (a + m)) E)) : ∀ acc, P acc → P (dfs stand hm B m a D acc) := by
  induction m generalizing a D with
  | zero =>
    intro acc h
    rw [dfs]
    cases hl : lgl stand D a
    · exact h
    · exact hP D (fun _ _ => rfl) (fun j h1 h2 => absurd h2 (by omega)) hl acc h
  | succ m ih =>
    intro acc h
    rw [dfs]
    have : ∀ n, n ≤ B → P (fo (fun d acc => dfs stand hm B m (a + 1) (setD D a d) acc) n acc) := by
      intro n
      induction n with
      | zero => intro _; exact h
      | succ n ihn =>
        intro hn
        rw [fo]
        refine ih (fun E h1 h2 h3 acc' h4 => ?_) _ (ihn (by omega))
        have e : a + 1 + m = a + (m + 1) := by omega
        rw [e] at h3 ⊢
        refine hP E (fun j hj => by rw [h1 j (by omega), setD_lt j hj]) (fun j h5 h6 => ?_) h3 acc' h4
        by_cases e2 : j = a
        · subst e2
          rw [h1 j (by omega), setD_eq]
          omega
        · exact h2 j (by omega) (by omega)
    exact this B (Nat.le_refl B)
end Search
