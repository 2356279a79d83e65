theorem am_dv6 (r : Option Rs) : am_dv 6 r = r := am_dv_ne (by decide) r
theorem am_dv365 (r : Option Rs) : am_dv 365 r = r := am_dv_ne (by decide) r
/-- a bit as both read it -/
def hb (a x : Int32) : Bool := decide ((a >>> (x &&& 31)) &&& 1 = 1)
theorem hb_nI {S i : Nat} (hS : S < 2 ^ 31) (hi : i < 32) : hb (nI S) (nI i) = S.testBit i := by
  unfold hb
  simp only [has_bit hS hi]
  cases S.testBit i <;> rfl
theorem c_hasG (f : Hp) (a x : Int32) : am_call 110 [.int a, .int x] f = some (bi (hb a x), f) := by
  rw [eX8_hasSide]
  unfold hb
  by_cases h : (a >>> (x &&& 31)) &&& 1 = 1
  · simp [h, am_z1, bi]
  · simp [h, am_z0, bi]
theorem m_hasG (f : Hp) (a x : Int32) : am_call 117 [.int a, .int x] f = some (bi (hb a x), f) := by
  rw [eX9_has]
  unfold hb
  by_cases h : (a >>> (x &&& 31)) &&& 1 = 1
  · simp [h, am_z1, bi]
  · simp [h, am_z0, bi]
-- doors
def dTerm (a b : Nat → Int32) (S : Nat) (day : Int32) (s : Nat) : Int32 := if S.testBit s then a s + b s * (day / 365) else 0
def dSum (a b : Nat → Int32) (n S : Nat) (day : Int32) : Int32 := sm (dTerm a b S day) n
theorem c_doorsOf {f : Hp} {n S : Nat} (hn : f 2 7 = nI n) (h9 : n ≤ 9) (hS : S < 2 ^ 31) (day : Int32) : am_call 31 [.ref 2, .int (nI S), .int day] f = some (dSum (f 3) (f 4) n S day, f) := by
  rw [eX4_doorsOf_2]
  have key : ∀ d i, i + d = n → am_run 31 5 [.ref 2, .int (nI S), .int day, .int (sm (dTerm (f 3) (f 4) S day) i), .int (nI i)] [] f = some (dSum (f 3) (f 4) n S day, f) := by
    intro d
    induction d with
    | zero =>
      intro i hi
      have hi : i = n := by omega
      subst hi
      rw [eX4_doorsOf_5_2, hn, if_neg (nI_nlt (Nat.le_refl _) (by omega))]
      rfl
    | succ d ih =>
      intro i hi
      rw [← ih (i + 1) (by omega), eX4_doorsOf_5_2, hn, if_pos (nI_lt (by omega) (by omega)), c_hasSide hS (by omega), am_cal_some, nI_1]
      cases hb : S.testBit i
      · rw [if_pos bi_f]
        simp [sm, dTerm, hb]
      · rw [if_neg (by simp [bi]), am_ald_in _ _ _ (by omega) (by decide), am_ald_in _ _ _ (by omega) (by decide), am_dv365]
        simp [sm, dTerm, hb]
  exact key n 0 (by omega)
theorem m_doorsAt {f : Hp} {s : Nat} (h : s < 9) (day : Int32) : am_call 126 [.ref 50, .int (nI s), .int day] f = some (f 51 s + f 52 s * (day / 365), f) := by
  rw [eX9_doorsAt_50, am_ald_in _ _ _ h (by decide), am_ald_in _ _ _ h (by decide), am_dv365]
theorem m_doorsIn {f : Hp} {n S : Nat} (hn : f 50 0 = nI n) (h9 : n ≤ 9) (hS : S < 2 ^ 31) (day : Int32) : am_call 128 [.ref 50, .int (nI S), .int day] f = some (dSum (f 51) (f 52) n S day, f) := by
  rw [eX9_doorsIn_50]
  have key : ∀ d i, i + d = n → am_run 128 5 [.ref 50, .int (nI S), .int day, .int (sm (dTerm (f 51) (f 52) S day) i), .int (nI i)] [] f = some (dSum (f 51) (f 52) n S day, f) := by
    intro d
    induction d with
    | zero =>
      intro i hi
      have hi : i = n := by omega
      subst hi
      rw [eX9_doorsIn_5_50, hn, if_neg (nI_nlt (Nat.le_refl _) (by omega))]
      rfl
    | succ d ih =>
      intro i hi
      rw [← ih (i + 1) (by omega), eX9_doorsIn_5_50, hn, if_pos (nI_lt (by omega) (by omega)), m_has hS (by omega), am_cal_some, nI_1]
      cases hb : S.testBit i
      · rw [if_pos bi_f]
        simp [sm, dTerm, hb]
      · rw [if_neg (by simp [bi]), m_doorsAt (by omega), am_cal_some]
        simp [sm, dTerm, hb]
  exact key n 0 (by omega)
theorem dSum_single {a b : Nat → Int32} {day : Int32} {s : Nat} : ∀ {n : Nat}, s < n → dSum a b n (2 ^ s) day = a s + b s * (day / 365) := by
  intro n
  have h0 : ∀ m, m ≤ s → sm (dTerm a b (2 ^ s) day) m = 0 := by
    intro m
    induction m with
    | zero => intro _; rfl
    | succ m ih =>
      intro hm
      rw [sm, ih (by omega)]
      have : (2 ^ s).testBit m = false := by rw [Nat.testBit_two_pow]; simp; omega
      simp [dTerm, this]
  intro h
  unfold dSum
  have h1 : ∀ d, sm (dTerm a b (2 ^ s) day) (s + 1 + d) = a s + b s * (day / 365) := by
    intro d
    induction d with
    | zero =>
      show sm _ (s + 1) = _
      rw [sm, h0 s (Nat.le_refl _)]
      simp [dTerm, Nat.testBit_two_pow]
    | succ d ih =>
      rw [show s + 1 + (d + 1) = (s + 1 + d) + 1 by omega, sm, ih]
      have : (2 ^ s).testBit (s + 1 + d) = false := by rw [Nat.testBit_two_pow]; simp; omega
      simp [dTerm, this]
  have := h1 (n - s - 1)
  rwa [show s + 1 + (n - s - 1) = n by omega] at this
def wTerm (m a b : Nat → Int32) (S : Nat) (day : Int32) (s : Nat) : Int32 := if S.testBit s then m s * (a s + b s * (day / 365)) else 0
def wSum (m a b : Nat → Int32) (n S : Nat) (day : Int32) : Int32 := sm (wTerm m a b S day) n
theorem c_weightOf {f : Hp} {n S : Nat} (hn : f 2 7 = nI n) (h9 : n ≤ 9) (hS : S < 2 ^ 31) (day : Int32) : am_call 32 [.ref 2, .int (nI S), .int day] f = some (wSum (f 6) (f 3) (f 4) n S day, f) := by
  rw [eX4_weightOf_2]
  have key : ∀ d i, i + d = n → am_run 32 5 [.ref 2, .int (nI S), .int day, .int (sm (wTerm (f 6) (f 3) (f 4) S day) i), .int (nI i)] [] f = some (wSum (f 6) (f 3) (f 4) n S day, f) := by
    intro d
    induction d with
    | zero =>
      intro i hi
      have hi : i = n := by omega
      subst hi
      rw [eX4_weightOf_5_2, hn, if_neg (nI_nlt (Nat.le_refl _) (by omega))]
      rfl
    | succ d ih =>
      intro i hi
      rw [← ih (i + 1) (by omega), eX4_weightOf_5_2, hn, if_pos (nI_lt (by omega) (by omega)), c_hasSide hS (by omega), am_cal_some, nI_1]
      cases hb : S.testBit i
      · rw [if_pos bi_f]
        simp [sm, wTerm, hb]
      · have h2 : 2 ^ i < 2 ^ 31 := Nat.pow_lt_pow_right (by decide) (by omega)
        rw [if_neg (by simp [bi]), am_ald_in _ _ _ (by omega) (by decide), shl_one (by omega), c_doorsOf hn h9 h2, am_cal_some, dSum_single (by omega)]
        simp [sm, wTerm, hb]
  exact key n 0 (by omega)
-- rows of rules
def lastIx (p : Nat → Bool) : Nat → Option Nat
  | 0 => none
  | n + 1 => if p n then some n else lastIx p n
theorem lastIx_congr {p q : Nat → Bool} : ∀ {n : Nat}, (∀ k, k < n → p k = q k) → lastIx p n = lastIx q n
  | 0, _ => rfl
  | n + 1, h => by
    rw [lastIx, lastIx, h n (by omega), lastIx_congr (fun k hk => h k (by omega))]
theorem lastIx_lt {p : Nat → Bool} : ∀ {n k : Nat}, lastIx p n = some k → k < n ∧ p k = true
  | 0, k, h => by cases h
  | n + 1, k, h => by
    rw [lastIx] at h
    cases hp : p n
    · rw [hp] at h
      have := lastIx_lt (n := n) (k := k) (by simpa using h)
      exact ⟨by omega, this.2⟩
    · rw [hp] at h
      have : n = k := by simpa using h
      subst this
      exact ⟨by omega, hp⟩
def enc (z : Int32) : Option Nat → Int32
  | none => z
  | some k => nI k
def letC (what : Int32) : Int32 := if what = 0 then 109 else if what = 1 then 121 else 111
def pIt (lt day : Int32) (l s : Nat → Int32) (k : Nat) : Bool := decide (l k = lt) && decide (s k ≤ day)
theorem c_letterOf (f : Hp) (w : Int32) : am_call 5 [.int w] f = some (letC w, f) := by
  rw [eX0_letterOf]
  unfold letC
  split
  · rfl
  · split <;> rfl
theorem m_letterOf (f : Hp) (w : Int32) : am_call 140 [.int w] f = some (letC w, f) := by
  rw [eX9_letterOf]
  unfold letC
  split
  · rfl
  · split <;> rfl
theorem c_itemOn {f : Hp} {c : Nat} (hc : f 16 3 = nI c) (h40 : c ≤ 40) (w day : Int32) : am_call 6 [.ref 16, .int w, .int day] f = some (enc (-1) (lastIx (pIt (letC w) day (f 17) (f 19)) c), f) := by
  rw [eX0_itemOn_16, c_letterOf, am_cal_some, hc]
  generalize letC w = lt
  have key : ∀ i, i ≤ c → am_run 6 13 [.ref 16, .null, .int day, .int lt, .int (nI i - 1)] [] f = some (enc (-1) (lastIx (pIt lt day (f 17) (f 19)) i), f) := by
    intro i
    induction i with
    | zero =>
      intro _
      rw [eX0_itemOn_13_16, if_pos (by decide)]
      rfl
    | succ i ih =>
      intro hi
      have hm : nI i + (-1) = nI i - 1 := by rw [Int32.sub_eq_add_neg]
      rw [eX0_itemOn_13_16, nI_pred, if_neg (nI_pos (by omega)), am_ald_in _ _ _ (by omega) (by decide), hm, ih (by omega), lastIx]
      unfold pIt
      by_cases h1 : f 17 i = lt
      · rw [if_pos h1, am_ald_in _ _ _ (by omega) (by decide)]
        by_cases h2 : day < f 19 i
        · rw [if_pos h2]
          have : ¬ f 19 i ≤ day := Int32.not_le.mpr h2
          simp [this]
        · rw [if_neg h2]
          have : f 19 i ≤ day := Int32.not_lt.mp h2
          simp [this, h1, enc]
      · rw [if_neg h1]
        simp [h1]
  exact key c (Nat.le_refl c)
def valO (w : Int32) (fs : Nat → Int32) : Option Nat → Int32
  | none => if w = 0 then 100 else 0
  | some k => fs k
theorem c_valueOn {f : Hp} {c : Nat} (hc : f 16 3 = nI c) (h40 : c ≤ 40) (w day : Int32) : am_call 7 [.ref 16, .int w, .int day] f = some (valO w (f 18) (lastIx (pIt (letC w) day (f 17) (f 19)) c), f) := by
  rw [eX0_valueOn_16, c_itemOn hc h40, am_cal_some]
  cases hl : lastIx (pIt (letC w) day (f 17) (f 19)) c with
  | none =>
    rw [enc, if_pos (by decide), valO]
    split <;> rfl
  | some k =>
    have := (lastIx_lt hl).1
    rw [enc, if_neg (nI_pos (by omega)), am_ald_in _ _ _ (by omega) (by decide), valO]
theorem nI_0l (a : Nat) : 150 + 3 * nI a = nI (150 + 3 * a) := by
  show nI 150 + nI 3 * nI a = _
  rw [pk_mul, nI_add]
theorem nI_1l (a : Nat) : 151 + 3 * nI a = nI (151 + 3 * a) := by
  show nI 151 + nI 3 * nI a = _
  rw [pk_mul, nI_add]
theorem nI_2l (a : Nat) : 152 + 3 * nI a = nI (152 + 3 * a) := by
  show nI 152 + nI 3 * nI a = _
  rw [pk_mul, nI_add]
theorem ald_1 (f : Hp) (q : Nat) {n : Nat} (c : Int32 → Option Rs) (h : 1 < n) (hn : n < 2 ^ 31) : am_ald f q n 1 c = c (f q 1) := am_ald_in f q c h hn
theorem ald_0 (f : Hp) (q : Nat) {n : Nat} (c : Int32 → Option Rs) (h : 0 < n) (hn : n < 2 ^ 31) : am_ald f q n 0 c = c (f q 0) := am_ald_in f q c h hn
theorem m_whyOf {f : Hp} {c : Nat} (hc : f 57 1 = nI c) (h40 : c ≤ 40) (w day : Int32) : am_call 141 [.ref 50, .int w, .int day] f = some (enc (-4) (lastIx (pIt (letC w) day (fun k => f 58 (150 + 3 * k)) (fun k => f 58 (152 + 3 * k))) c), f) := by
  rw [eX9_whyOf_50]
  have key : ∀ d i, i + d = c → am_run 141 6 [.ref 50, .int w, .int day, .int (enc (-4) (lastIx (pIt (letC w) day (fun k => f 58 (150 + 3 * k)) (fun k => f 58 (152 + 3 * k))) i)), .int (nI i)] [] f = some (enc (-4) (lastIx (pIt (letC w) day (fun k => f 58 (150 + 3 * k)) (fun k => f 58 (152 + 3 * k))) c), f) := by
    intro d
    induction d with
    | zero =>
      intro i hi
      have hi : i = c := by omega
      subst hi
      rw [eX9_whyOf_6_50, ald_1 _ _ _ (by decide) (by decide), hc, if_neg (nI_nlt (Nat.le_refl _) (by omega))]
    | succ d ih =>
      intro i hi
      rw [← ih (i + 1) (by omega), eX9_whyOf_6_50, ald_1 _ _ _ (by decide) (by decide), hc, if_pos (nI_lt (by omega) (by omega)), nI_0l, nI_2l, am_ald_in _ _ _ (by omega) (by decide), m_letterOf, am_cal_some, nI_1, lastIx]
      unfold pIt
      by_cases h1 : f 58 (150 + 3 * i) = letC w
      · rw [if_pos h1, am_ald_in _ _ _ (by omega) (by decide)]
        by_cases h2 : day < f 58 (152 + 3 * i)
        · rw [if_pos h2]
          have : ¬ f 58 (152 + 3 * i) ≤ day := Int32.not_le.mpr h2
          simp [this]
        · rw [if_neg h2]
          have : f 58 (152 + 3 * i) ≤ day := Int32.not_lt.mp h2
          simp [this, h1, enc]
      · rw [if_neg h1]
        simp [h1]
  exact key c 0 (by omega)
theorem m_ruleOf {f : Hp} {c : Nat} (hc : f 57 1 = nI c) (h40 : c ≤ 40) (w day : Int32) : am_call 142 [.ref 50, .int w, .int day] f = some (valO w (fun k => f 58 (151 + 3 * k)) (lastIx (pIt (letC w) day (fun k => f 58 (150 + 3 * k)) (fun k => f 58 (152 + 3 * k))) c), f) := by
  rw [eX9_ruleOf_50, m_whyOf hc h40, am_cal_some]
  cases hl : lastIx (pIt (letC w) day (fun k => f 58 (150 + 3 * k)) (fun k => f 58 (152 + 3 * k))) c with
  | none =>
    rw [enc, if_pos rfl, valO]
    split <;> rfl
  | some k =>
    have := (lastIx_lt hl).1
    have hne : ¬ nI k = -4 := by
      intro h
      have h1 := nI_pos (n := k) (by omega)
      rw [h] at h1
      exact h1 (by decide)
    rw [enc, if_neg hne, nI_1l, am_ald_in _ _ _ (by omega) (by decide), valO]
