theorem nx_and (a b : Nat) : nI a &&& nI b = nI (a &&& b) := by
  apply Int32.toBitVec_inj.1
  show BitVec.ofNat 32 a &&& BitVec.ofNat 32 b = BitVec.ofNat 32 (a &&& b)
  apply BitVec.eq_of_getLsbD_eq
  intro i hi
  simp [hi]
theorem nx_xor (a b : Nat) : nI a ^^^ nI b = nI (a ^^^ b) := by
  apply Int32.toBitVec_inj.1
  show BitVec.ofNat 32 a ^^^ BitVec.ofNat 32 b = BitVec.ofNat 32 (a ^^^ b)
  apply BitVec.eq_of_getLsbD_eq
  intro i hi
  simp [hi]
theorem nx_or (a b : Nat) : nI a ||| nI b = nI (a ||| b) := by
  apply Int32.toBitVec_inj.1
  show BitVec.ofNat 32 a ||| BitVec.ofNat 32 b = BitVec.ofNat 32 (a ||| b)
  apply BitVec.eq_of_getLsbD_eq
  intro i hi
  simp [hi]
theorem fa_lt (a b : Int32) : a < b ↔ a.toInt < b.toInt := Int32.lt_iff_toInt_lt
theorem fa_le (a b : Int32) : a ≤ b ↔ a.toInt ≤ b.toInt := Int32.le_iff_toInt_le
theorem fa_eq (a b : Int32) : a = b ↔ a.toInt = b.toInt := Int32.toInt_inj.symm
theorem fa_lt64 (a b : Int64) : a < b ↔ a.toInt < b.toInt := Int64.lt_iff_toInt_lt
theorem fa_le64 (a b : Int64) : a ≤ b ↔ a.toInt ≤ b.toInt := Int64.le_iff_toInt_le
theorem fa_wide_lt (a b : Int32) : a.toInt64 < b.toInt64 ↔ a < b := by rw [fa_lt64, fa_lt, Int32.toInt_toInt64, Int32.toInt_toInt64]
theorem fa_wide_le (a b : Int32) : a.toInt64 ≤ b.toInt64 ↔ a ≤ b := by rw [fa_le64, fa_le, Int32.toInt_toInt64, Int32.toInt_toInt64]
/-- a truth value as an int -/
def bi (b : Bool) : Int32 := if b then 1 else 0
theorem bi_eq0 (b : Bool) : (bi b = 0) = (b = false) := by cases b <;> simp [bi]
theorem bi_eq1 (b : Bool) : (bi b = 1) = (b = true) := by cases b <;> simp [bi]
theorem bi_t : bi true = 1 := rfl
theorem bi_f : bi false = 0 := rfl
theorem am_z_bi (b : Bool) (r : Option Rs) : am_z (bi b) r = r := by cases b <;> rfl
theorem am_z0 (r : Option Rs) : am_z 0 r = r := rfl
theorem am_z1 (r : Option Rs) : am_z 1 r = r := rfl
theorem am_cal_some (x : Int32) (g : Hp) (c : Int32 → Hp → Option Rs) : am_cal (some (x, g)) c = c x g := rfl
theorem am_dv_ne {y : Int32} (h : ¬ y = 0) (r : Option Rs) : am_dv y r = r := by simp [am_dv, h]
theorem am_ald_in (f : Hp) (q : Nat) {n j : Nat} (c : Int32 → Option Rs) (h : j < n) (hn : n < 2 ^ 31) : am_ald f q n (nI j) c = c (f q j) := by
  unfold am_ald
  rw [nI_toInt (by omega), nI_clamp (by omega), if_pos (by omega)]
theorem am_ast_in (f : Hp) (q : Nat) {n j : Nat} (x : Int32) (c : Hp → Option Rs) (h : j < n) (hn : n < 2 ^ 31) : am_ast f q n (nI j) x c = c (am_up f q j x) := by
  unfold am_ast
  rw [nI_toInt (by omega), nI_clamp (by omega), if_pos (by omega)]
theorem am_up_same (f : Hp) (q j : Nat) (x : Int32) : am_up f q j x q j = x := by
  rw [am_up_eq]
  simp [upd]
theorem am_up_j {f : Hp} {q j k : Nat} {x : Int32} (h : k ≠ j) : am_up f q j x q k = f q k := by
  rw [am_up_eq]
  simp [upd, h]
theorem nI_lit (n : Nat) : (OfNat.ofNat n : Int32) = nI n := rfl
theorem nI_one : (1 : Int32) = nI 1 := rfl
/-- loops: d rounds from i on -/
def fu {σ : Type} (b : Nat → σ → σ) : Nat → Nat → σ → σ
  | _, 0, s => s
  | i, d + 1, s => fu b (i + 1) d (b i s)
theorem fu_last {σ : Type} (b : Nat → σ → σ) : ∀ (d i : Nat) (s : σ), fu b i (d + 1) s = b (i + d) (fu b i d s)
  | 0, i, s => rfl
  | d + 1, i, s => by
    have := fu_last b d (i + 1) (b i s)
    show fu b (i + 1) (d + 1) (b i s) = _
    rw [this]
    rw [show i + 1 + d = i + (d + 1) by omega]
    rfl
theorem loop_up {σ : Type} {α : Type} (R : Nat → σ → α) (b : Nat → σ → σ) (n : Nat) (P : Nat → σ → Prop) (hs : ∀ i s, i < n → P i s → R i s = R (i + 1) (b i s) ∧ P (i + 1) (b i s)) : ∀ (d i : Nat) (s : σ), i + d = n → P i s → R i s = R n (fu b i d s) ∧ P n (fu b i d s)
  | 0, i, s, h, hp => by
    have : i = n := by omega
    subst this
    exact ⟨rfl, hp⟩
  | d + 1, i, s, h, hp => by
    obtain ⟨h1, h2⟩ := hs i s (by omega) hp
    obtain ⟨h3, h4⟩ := loop_up R b n P hs d (i + 1) (b i s) (by omega) h2
    exact ⟨h1.trans h3, h4⟩
/-- a loop that keeps an invariant: all that is to be known at its end -/
theorem loop_inv {σ : Type} {α : Type} (R : Nat → σ → α) (n : Nat) (P : Nat → σ → Prop) (G : α → Prop) (hs : ∀ i s, i < n → P i s → ∃ s', R i s = R (i + 1) s' ∧ P (i + 1) s') (he : ∀ s, P n s → G (R n s)) : ∀ (d i : Nat) (s : σ), i + d = n → P i s → G (R i s)
  | 0, i, s, h, hp => by
    have : i = n := by omega
    subst this
    exact he s hp
  | d + 1, i, s, h, hp => by
    obtain ⟨s', h1, h2⟩ := hs i s (by omega) hp
    rw [h1]
    exact loop_inv R n P G hs he d (i + 1) s' (by omega) h2
/-- a loop that may leave early -/
theorem loop_out {σ : Type} {α : Type} (R : Nat → σ → α) (n : Nat) (P : Nat → σ → Prop) (G : α → Prop) (hs : ∀ i s, i < n → P i s → G (R i s) ∨ ∃ s', R i s = R (i + 1) s' ∧ P (i + 1) s') (he : ∀ s, P n s → G (R n s)) : ∀ (d i : Nat) (s : σ), i + d = n → P i s → G (R i s)
  | 0, i, s, h, hp => by
    have : i = n := by omega
    subst this
    exact he s hp
  | d + 1, i, s, h, hp => by
    rcases hs i s (by omega) hp with h0 | ⟨s', h1, h2⟩
    · exact h0
    · rw [h1]
      exact loop_out R n P G hs he d (i + 1) s' (by omega) h2
/-- sums of ints -/
def sm (g : Nat → Int32) : Nat → Int32
  | 0 => 0
  | n + 1 => sm g n + g n
theorem sm_congr {g h : Nat → Int32} : ∀ {n : Nat}, (∀ i, i < n → g i = h i) → sm g n = sm h n
  | 0, _ => rfl
  | n + 1, hh => by
    rw [sm, sm, sm_congr (fun i hi => hh i (by omega)), hh n (by omega)]
-- bits
theorem shl_one {v : Nat} (h : v < 31) : (1 : Int32) <<< (nI v &&& 31) = nI (2 ^ v) := by
  have : ∀ v, v < 31 → (1 : Int32) <<< (nI v &&& 31) = nI (2 ^ v) := by decide +kernel
  exact this v h
theorem shr_amt {i : Nat} (h : i < 32) : ((nI i &&& 31).toBitVec.smod 32).toNat = i := by
  have : ∀ n, n < 32 → ((nI n &&& 31).toBitVec.smod 32).toNat = n := by decide +kernel
  exact this i h
theorem has_bit {S i : Nat} (hS : S < 2 ^ 31) (hi : i < 32) : ((nI S >>> (nI i &&& 31)) &&& 1 = 1) = (S.testBit i = true) := by
  rw [pk_shrN hS (nI i &&& 31) i (shr_amt hi), nI_one, nx_and, Nat.and_one_is_mod, nI_eq (by omega) (by omega), Nat.testBit_eq_decide_div_mod_eq]
  simp
-- small methods of both
theorem c_within (f : Hp) (a lo hi : Int32) : am_call 106 [.int a, .int lo, .int hi] f = some (bi (decide (lo ≤ a) && decide (a ≤ hi)), f) := by
  rw [eX8_within]
  by_cases h1 : a < lo
  · rw [if_pos h1, am_z0]
    have : ¬ lo ≤ a := Int32.not_le.mpr h1
    simp [this, bi]
  · rw [if_neg h1]
    have h1 : lo ≤ a := Int32.not_lt.mp h1
    by_cases h2 : hi < a
    · rw [if_pos h2, am_z0]
      have : ¬ a ≤ hi := Int32.not_le.mpr h2
      simp [this, bi]
    · rw [if_neg h2, am_z1]
      have h2 : a ≤ hi := Int32.not_lt.mp h2
      simp [h1, h2, bi]
theorem lg_neg (x y : Int64) : (lg_cmp x y < 0) = (x < y) := by
  unfold lg_cmp
  by_cases h1 : x > y
  · rw [if_pos h1]
    have : ¬ x < y := by rw [fa_lt64]; have := (fa_lt64 y x).mp h1; omega
    simp [this]
  · rw [if_neg h1]
    by_cases h2 : x = y
    · rw [if_pos h2]
      subst h2
      have : ¬ x < x := by rw [fa_lt64]; omega
      simp [this]
    · rw [if_neg h2]
      have : x < y := by
        rw [fa_lt64]
        have h3 : ¬ y.toInt < x.toInt := fun h => h1 ((fa_lt64 y x).mpr h)
        have h4 : x.toInt ≠ y.toInt := fun h => h2 (Int64.toInt_inj.mp h)
        omega
      simp [this]
theorem lg_pos (x y : Int64) : (0 < lg_cmp x y) = (y < x) := by
  unfold lg_cmp
  by_cases h1 : x > y
  · rw [if_pos h1]
    have : y < x := h1
    simp [this]
  · rw [if_neg h1]
    have h3 : ¬ y < x := h1
    by_cases h2 : x = y
    · rw [if_pos h2]
      simp [h3]
    · rw [if_neg h2]
      simp [h3]
theorem m_in (f : Hp) (a lo hi : Int32) : am_call 116 [.long a.toInt64, .long lo.toInt64, .long hi.toInt64] f = some (bi (decide (lo ≤ a) && decide (a ≤ hi)), f) := by
  rw [eX9_in]
  simp only [lg_neg, lg_pos, fa_wide_lt]
  by_cases h1 : a < lo
  · rw [if_pos h1, am_z0]
    have : ¬ lo ≤ a := Int32.not_le.mpr h1
    simp [this, bi]
  · rw [if_neg h1]
    have h1 : lo ≤ a := Int32.not_lt.mp h1
    by_cases h2 : hi < a
    · rw [if_pos h2, am_z0]
      have : ¬ a ≤ hi := Int32.not_le.mpr h2
      simp [this, bi]
    · rw [if_neg h2, am_z1]
      have h2 : a ≤ hi := Int32.not_lt.mp h2
      simp [h1, h2, bi]
/-- the same with constants, as the code has them -/
theorem m_inK (f : Hp) (a lo hi : Int32) {lo' hi' : Int64} (h1 : lo' = lo.toInt64) (h2 : hi' = hi.toInt64) : am_call 116 [.long a.toInt64, .long lo', .long hi'] f = some (bi (decide (lo ≤ a) && decide (a ≤ hi)), f) := by
  subst h1
  subst h2
  exact m_in f a lo hi
/-- low ≤ a ≤ high, as both say it -/
def wi (a lo hi : Int32) : Bool := decide (lo ≤ a) && decide (a ≤ hi)
theorem c_within' (f : Hp) (a lo hi : Int32) : am_call 106 [.int a, .int lo, .int hi] f = some (bi (wi a lo hi), f) := c_within f a lo hi
theorem m_in' (f : Hp) (a lo hi : Int32) {lo' hi' : Int64} (h1 : lo' = lo.toInt64) (h2 : hi' = hi.toInt64) : am_call 116 [.long a.toInt64, .long lo', .long hi'] f = some (bi (wi a lo hi), f) := m_inK f a lo hi h1 h2
theorem c_isDay (f : Hp) (a : Int32) : am_call 107 [.int a] f = some (bi (wi a 0 14600), f) := by
  rw [eX8_isDay, c_within', am_cal_some, am_z_bi]
theorem c_isLetter (f : Hp) (a : Int32) : am_call 108 [.int a] f = some (bi (wi a 0 5), f) := by
  rw [eX8_isLetter, c_within', am_cal_some, am_z_bi]
theorem c_isWord (f : Hp) (a : Int32) : am_call 109 [.int a] f = some (bi (wi a 0 35), f) := by
  rw [eX8_isWord, c_within', am_cal_some, am_z_bi]
theorem c_isSide (f : Hp) (a : Int32) : am_call 111 [.ref 1, .int a] f = some (bi (wi a 0 (f 2 7 - 1)), f) := by
  rw [eX8_isSide_1, c_within', am_cal_some, am_z_bi]
theorem c_isShape (f : Hp) (a : Int32) : am_call 112 [.ref 1, .int a] f = some (bi (wi a 1 ((1 <<< (f 2 7 &&& 31)) - 1)), f) := by
  rw [eX8_isShape_1, eX4_allSides_2, am_cal_some, c_within', am_cal_some, am_z_bi]
theorem c_isEdition (f : Hp) (a : Int32) : am_call 113 [.ref 1, .int a] f = some (bi (wi a 0 (f 37 3 - 1)), f) := by
  rw [eX8_isEdition_1, c_within', am_cal_some, am_z_bi]
theorem c_hasSide {f : Hp} {S i : Nat} (hS : S < 2 ^ 31) (hi : i < 32) : am_call 110 [.int (nI S), .int (nI i)] f = some (bi (S.testBit i), f) := by
  rw [eX8_hasSide]
  simp only [has_bit hS hi, am_z0, am_z1]
  cases S.testBit i <;> rfl
theorem m_has {f : Hp} {S i : Nat} (hS : S < 2 ^ 31) (hi : i < 32) : am_call 117 [.int (nI S), .int (nI i)] f = some (bi (S.testBit i), f) := by
  rw [eX9_has]
  simp only [has_bit hS hi, am_z0, am_z1]
  cases S.testBit i <;> rfl
theorem m_isDay (f : Hp) (a : Int32) : am_call 119 [.int a] f = some (bi (wi a 0 14600), f) := by
  rw [eX9_isDay, m_in' f a 0 14600 (by decide) (by decide), am_cal_some, am_z_bi]
theorem m_isSide (f : Hp) (a : Int32) : am_call 120 [.ref 50, .int a] f = some (bi (wi a 0 (f 50 0 - 1)), f) := by
  rw [eX9_isSide_50, m_in' f a 0 (f 50 0 - 1) (by decide) rfl, am_cal_some, am_z_bi]
theorem m_isShape (f : Hp) (a : Int32) : am_call 122 [.ref 50, .int a] f = some (bi (wi a 1 ((1 <<< (f 50 0 &&& 31)) - 1)), f) := by
  rw [eX9_isShape_50, eX9_all_50, am_cal_some, m_in' f a 1 _ (by decide) rfl, am_cal_some, am_z_bi]
theorem m_isWord (f : Hp) (a : Int32) : am_call 156 [.int a] f = some (bi (wi a 0 35), f) := by
  rw [eX9_isWord, m_in' f a 0 35 (by decide) (by decide), am_cal_some, am_z_bi]
