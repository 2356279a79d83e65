/-- a whole cell put in -/
def setC (f : Hp) (q : Nat) (g : Nat → Int32) : Hp := fun a => bif Nat.beq a q then g else f a
theorem setC_eq (f : Hp) (q : Nat) (g : Nat → Int32) : setC f q g q = g := by
  unfold setC
  rw [Nat.beq_refl]
  rfl
theorem setC_ne {f : Hp} {q a : Nat} {g : Nat → Int32} (h : a ≠ q) : setC f q g a = f a := by
  unfold setC
  have : Nat.beq a q = false := by
    rw [Bool.eq_false_iff]
    intro hz
    exact h (Nat.eq_of_beq_eq_true hz)
  rw [this]
  rfl
theorem setC_self (f : Hp) (q : Nat) : setC f q (f q) = f := by
  funext a
  by_cases h : a = q
  · subst h
    rw [setC_eq]
  · rw [setC_ne h]
theorem up_setC (f : Hp) (q j : Nat) (g : Nat → Int32) (x : Int32) : am_up (setC f q g) q j x = setC f q (upd g j x) := by
  funext a
  by_cases h : a = q
  · subst h
    rw [am_up_eq, setC_eq, setC_eq]
  · rw [am_up_ne h, setC_ne h, setC_ne h]
theorem upd_same (g : Nat → Int32) (j : Nat) (x : Int32) : upd g j x j = x := by simp [upd]
theorem upd_ne {g : Nat → Int32} {j k : Nat} {x : Int32} (h : k ≠ j) : upd g j x k = g k := by simp [upd, h]
-- least of several
def omin : Option Nat → Option Nat → Option Nat
  | none, b => b
  | some x, none => some x
  | some x, some y => some (min x y)
def minO (g : Nat → Option Nat) : Nat → Option Nat
  | 0 => none
  | n + 1 => omin (minO g n) (g n)
theorem omin_none (a : Option Nat) : omin a none = a := by cases a <;> rfl
theorem minO_congr {g h : Nat → Option Nat} : ∀ {n : Nat}, (∀ k, k < n → g k = h k) → minO g n = minO h n
  | 0, _ => rfl
  | n + 1, hh => by rw [minO, minO, hh n (by omega), minO_congr (fun k hk => hh k (by omega))]
theorem omin_lt {a b : Option Nat} {B : Nat} (ha : ∀ x, a = some x → x < B) (hb : ∀ x, b = some x → x < B) : ∀ x, omin a b = some x → x < B := by
  intro x h
  cases a with
  | none => exact hb x h
  | some y =>
    cases b with
    | none => exact ha x h
    | some z =>
      have h1 := ha y rfl
      have h2 := hb z rfl
      have : min y z = x := Option.some.inj h
      omega
theorem minO_lt {g : Nat → Option Nat} {B : Nat} : ∀ {n : Nat}, (∀ k, k < n → ∀ x, g k = some x → x < B) → ∀ x, minO g n = some x → x < B
  | 0, _, x, h => by cases h
  | n + 1, hh, x, h => omin_lt (minO_lt (fun k hk => hh k (by omega))) (hh n (by omega)) x h
def encW (off : Nat) : Option Nat → Int32
  | none => 1000000
  | some x => nI (x + off)
theorem enc4_ne {k : Nat} (h : k < 2 ^ 31) : ¬ nI k = -4 := by
  intro z
  have := nI_pos h
  rw [z] at this
  exact this (by decide)
theorem m_min {o : Option Nat} {x : Nat} (ho : ∀ y, o = some y → y < 1000000) (hx : x < 1000000) : (if enc (-4) o = -4 then nI x else if nI x < enc (-4) o then nI x else enc (-4) o) = enc (-4) (omin o (some x)) := by
  cases o with
  | none => simp [enc, omin]
  | some y =>
    have hy := ho y rfl
    show (if nI y = -4 then nI x else if nI x < nI y then nI x else nI y) = nI (min y x)
    rw [if_neg (enc4_ne (k := y) (by omega))]
    by_cases h : x < y
    · rw [if_pos (nI_lt h (by omega)), show min y x = x by omega]
    · rw [if_neg (nI_nlt (by omega) (by omega)), show min y x = y by omega]
theorem c_min {o : Option Nat} {x off : Nat} (ho : ∀ y, o = some y → y + off < 1000000) (hx : x + off < 1000000) : (if nI (x + off) < encW off o then nI (x + off) else encW off o) = encW off (omin o (some x)) := by
  cases o with
  | none =>
    show (if nI (x + off) < (1000000 : Int32) then nI (x + off) else 1000000) = nI (x + off)
    rw [if_pos (show nI (x + off) < (1000000 : Int32) from nI_lt (b := 1000000) hx (by decide))]
  | some y =>
    have hy := ho y rfl
    show (if nI (x + off) < nI (y + off) then nI (x + off) else nI (y + off)) = nI (min y x + off)
    by_cases h : x < y
    · rw [if_pos (nI_lt (by omega) (by omega)), show min y x = x by omega]
    · rw [if_neg (nI_nlt (by omega) (by omega)), show min y x = y by omega]
theorem a_min {o p : Option Nat} {off : Nat} (ho : ∀ y, o = some y → y + off < 1000000) (hp : ∀ y, p = some y → y + off < 1000000) : am_min (encW off o) (encW off p) = encW off (omin o p) := by
  unfold am_min
  cases p with
  | none =>
    rw [omin_none]
    cases o with
    | none => simp [encW]
    | some y =>
      have := ho y rfl
      show (if (1000000 : Int32) < nI (y + off) then 1000000 else nI (y + off)) = nI (y + off)
      rw [if_neg (show ¬ (1000000 : Int32) < nI (y + off) from nI_nlt (a := 1000000) (by omega) (by decide))]
  | some x => exact c_min ho (hp x rfl)
-- bits of sets below 512
theorem bit_drop : ∀ (S : Fin 512) (v : Fin 9), S.val.testBit v.val = true → (S.val ^^^ 2 ^ v.val) + 2 ^ v.val = S.val := by decide +kernel
theorem bit_dropI : ∀ (S : Fin 512) (v : Fin 9), S.val.testBit v.val = true → (nI S.val &&& (nI (2 ^ v.val) ^^^ (-1))) = nI (S.val ^^^ 2 ^ v.val) := by decide +kernel
theorem drop_add {S v : Nat} (hS : S < 512) (hv : v < 9) (h : S.testBit v = true) : (S ^^^ 2 ^ v) + 2 ^ v = S := bit_drop ⟨S, hS⟩ ⟨v, hv⟩ h
theorem drop_lt {S v : Nat} (hS : S < 512) (hv : v < 9) (h : S.testBit v = true) : (S ^^^ 2 ^ v) < S := by
  have := drop_add hS hv h
  have : 0 < 2 ^ v := Nat.two_pow_pos v
  omega
theorem dropI {S v : Nat} (hS : S < 512) (hv : v < 9) (h : S.testBit v = true) : (nI S &&& ((1 <<< (nI v &&& 31)) ^^^ (-1))) = nI (S ^^^ 2 ^ v) := by
  rw [shl_one (by omega)]
  exact bit_dropI ⟨S, hS⟩ ⟨v, hv⟩ h
theorem pow9 {n : Nat} (h9 : n ≤ 9) : 2 ^ n ≤ 512 := Nat.pow_le_pow_right (by decide) h9
theorem all_eq {n : Nat} (h9 : n ≤ 9) : (1 <<< (nI n &&& 31)) - 1 = nI (2 ^ n - 1) := by
  rw [shl_one (by omega)]
  exact pk_sub (Nat.two_pow_pos n)
theorem lt_bit {S n i : Nat} (h : S < 2 ^ n) (hi : n ≤ i) : S.testBit i = false := Nat.testBit_lt_two_pow (Nat.lt_of_lt_of_le h (Nat.pow_le_pow_right (by decide) hi))
-- the least walk of what begins with a side: links alone
def wkF (lk : Nat → Nat) (n : Nat) : Nat → Nat → Nat → Option Nat
  | 0, _, _ => none
  | F + 1, S, v => if S = 2 ^ v then some 0 else if S.testBit v then minO (fun u => if (S ^^^ 2 ^ v).testBit u && decide (0 < lk (9 * v + u)) then (wkF lk n F (S ^^^ 2 ^ v) u).map (lk (9 * v + u) + ·) else none) n else none
def WK (lk : Nat → Nat) (n S v : Nat) : Option Nat := wkF lk n (S + 1) S v
theorem wkF_eq {lk : Nat → Nat} {n : Nat} (h9 : n ≤ 9) : ∀ (S : Nat), S < 512 → ∀ (F v : Nat), S < F → v < n → wkF lk n F S v = WK lk n S v := by
  intro S
  induction S using Nat.strongRecOn with
  | _ S ih =>
    intro hS F v hF hv
    unfold WK
    cases F with
    | zero => omega
    | succ F =>
      rw [wkF, wkF]
      by_cases h1 : S = 2 ^ v
      · rw [if_pos h1, if_pos h1]
      · rw [if_neg h1, if_neg h1]
        cases hb : S.testBit v
        · rfl
        · have hlt := drop_lt hS (by omega) hb
          rw [if_pos rfl, if_pos rfl]
          refine minO_congr fun u hu => ?_
          rw [ih _ hlt (by omega) F u (by omega) hu, ih _ hlt (by omega) S u hlt hu]
theorem WK_eq {lk : Nat → Nat} {n S v : Nat} (h9 : n ≤ 9) (hS : S < 512) (hv : v < n) : WK lk n S v = if S = 2 ^ v then some 0 else if S.testBit v then minO (fun u => if (S ^^^ 2 ^ v).testBit u && decide (0 < lk (9 * v + u)) then (WK lk n (S ^^^ 2 ^ v) u).map (lk (9 * v + u) + ·) else none) n else none := by
  unfold WK
  rw [wkF]
  by_cases h1 : S = 2 ^ v
  · rw [if_pos h1, if_pos h1]
  · rw [if_neg h1, if_neg h1]
    cases hb : S.testBit v
    · rfl
    · have hlt := drop_lt hS (by omega) hb
      rw [if_pos rfl, if_pos rfl]
      refine minO_congr fun u hu => ?_
      rw [wkF_eq h9 _ (by omega) S u hlt hu]
      rfl
/-- sums over the sides of a set -/
def nsum (g : Nat → Nat) (S : Nat) : Nat → Nat
  | 0 => 0
  | n + 1 => nsum g S n + if S.testBit n then g n else 0
theorem nsum_le {g : Nat → Nat} {S B : Nat} (h : ∀ s, g s ≤ B) : ∀ n, nsum g S n ≤ B * n
  | 0 => by simp [nsum]
  | n + 1 => by
    have := nsum_le (S := S) h n
    have := h n
    rw [nsum, Nat.mul_succ]
    split <;> omega
theorem nsum_add {g : Nat → Nat} {S P : Nat} (hP : ∀ i, P.testBit i = true → S.testBit i = true) : ∀ n, nsum g P n + nsum g (S ^^^ P) n = nsum g S n
  | 0 => rfl
  | n + 1 => by
    have ih := nsum_add (g := g) hP n
    rw [nsum, nsum, nsum, Nat.testBit_xor]
    have := hP n
    cases h1 : P.testBit n <;> cases h2 : S.testBit n <;> simp_all <;> omega
theorem nsum_mono {g : Nat → Nat} {S P : Nat} (hP : ∀ i, P.testBit i = true → S.testBit i = true) (n : Nat) : nsum g P n ≤ nsum g S n := by
  have := nsum_add (g := g) hP n
  omega
theorem nsum_pow {g : Nat → Nat} {v : Nat} : ∀ {n : Nat}, v < n → nsum g (2 ^ v) n = g v
  | 0, h => by omega
  | n + 1, h => by
    rw [nsum]
    by_cases hv : v = n
    · subst hv
      have h0 : ∀ m, m ≤ v → nsum g (2 ^ v) m = 0 := by
        intro m
        induction m with
        | zero => intro _; rfl
        | succ m ih =>
          intro hm
          rw [nsum, ih (by omega), Nat.testBit_two_pow]
          have : ¬ v = m := by omega
          simp [this]
      rw [h0 v (Nat.le_refl v), Nat.testBit_two_pow]
      simp
    · rw [nsum_pow (n := n) (by omega), Nat.testBit_two_pow]
      simp [hv]
/-- how many sides -/
def cnt (S n : Nat) : Nat := nsum (fun _ => 1) S n
theorem cnt_le (S n : Nat) : cnt S n ≤ n := by
  have := nsum_le (g := fun _ => 1) (S := S) (B := 1) (fun _ => Nat.le_refl 1) n
  unfold cnt
  omega
theorem bit_sub {S v : Nat} (h : S.testBit v = true) : ∀ i, (2 ^ v).testBit i = true → S.testBit i = true := by
  intro i hi
  rw [Nat.testBit_two_pow] at hi
  have : v = i := by simpa using hi
  rw [← this]
  exact h
theorem nsum_drop {g : Nat → Nat} {S v n : Nat} (hv : v < n) (h : S.testBit v = true) : nsum g (S ^^^ 2 ^ v) n + g v = nsum g S n := by
  have := nsum_add (g := g) (bit_sub h) n
  rw [nsum_pow hv] at this
  omega
/-- walks are not long -/
theorem WK_le {lk : Nat → Nat} {n : Nat} (h9 : n ≤ 9) (hlk : ∀ i, lk i ≤ 500) : ∀ (S : Nat), S < 512 → ∀ v, v < n → ∀ x, WK lk n S v = some x → x + 500 ≤ 500 * cnt S n := by
  intro S
  induction S using Nat.strongRecOn with
  | _ S ih =>
    intro hS v hv x hx
    rw [WK_eq h9 hS hv] at hx
    by_cases h1 : S = 2 ^ v
    · rw [if_pos h1] at hx
      have : x = 0 := (Option.some.inj hx).symm
      subst this
      have hc : cnt S n = 1 := by
        unfold cnt
        rw [h1, nsum_pow hv]
      rw [hc]
      omega
    · rw [if_neg h1] at hx
      cases hb : S.testBit v
      · rw [hb] at hx
        cases hx
      · rw [hb, if_pos rfl] at hx
        have hlt := drop_lt hS (by omega) hb
        have hd := nsum_drop (g := fun _ => 1) hv hb
        have key : ∀ y, minO (fun u => if (S ^^^ 2 ^ v).testBit u && decide (0 < lk (9 * v + u)) then (WK lk n (S ^^^ 2 ^ v) u).map (lk (9 * v + u) + ·) else none) n = some y → y < 500 * cnt S n - 500 + 1 := by
          refine minO_lt fun u hu y hy => ?_
          split at hy
          · cases hw : WK lk n (S ^^^ 2 ^ v) u with
            | none => rw [hw] at hy; cases hy
            | some z =>
              rw [hw] at hy
              have h2 := ih _ hlt (by omega) u hu z hw
              have h3 : lk (9 * v + u) + z = y := Option.some.inj hy
              have h4 := hlk (9 * v + u)
              unfold cnt at h2 ⊢
              omega
          · cases hy
        have := key x hx
        unfold cnt at this hd ⊢
        omega
