-- misreads
def msum (h : Nat → Int32) (a : Nat) : Int32 := sm (fun k => h (6 * a + k)) 6
theorem idx6 (a k : Nat) : nI a * 6 + nI k = nI (6 * a + k) := by
  show nI a * nI 6 + nI k = _
  rw [pk_mul, nI_add, Nat.mul_comm]
theorem idx6' (a k : Nat) : 6 * nI a + nI k = nI (6 * a + k) := by
  show nI 6 * nI a + nI k = _
  rw [pk_mul, nI_add]
theorem sm_sub (g : Nat → Int32) (c : Int32) (n : Nat) : c - sm g (n + 1) = c - sm g n - g n := by
  rw [sm]
  grind
theorem c_leftOf {f : Hp} {a : Nat} (h : a < 6) : am_call 14 [.ref 20, .int (nI a)] f = some (100 - msum (f 21) a, f) := by
  rw [eX1_leftOf_20]
  have key : ∀ d i, i + d = 6 → am_run 14 5 [.ref 20, .int (nI a), .int (100 - sm (fun k => f 21 (6 * a + k)) i), .int (nI i)] [] f = some (100 - msum (f 21) a, f) := by
    intro d
    induction d with
    | zero =>
      intro i hi
      have hi : i = 6 := by omega
      subst hi
      rw [eX1_leftOf_5_20, if_neg (by decide)]
      rfl
    | succ d ih =>
      intro i hi
      rw [eX1_leftOf_5_20, if_pos (show nI i < (6 : Int32) from nI_lt (b := 6) (by omega) (by omega)), idx6, am_ald_in _ _ _ (by omega) (by decide), nI_1, ← ih (i + 1) (by omega), sm_sub]
  have := key 6 0 (by omega)
  have e : (100 : Int32) - sm (fun k => f 21 (6 * a + k)) 0 = 100 := by simp [sm]
  rw [e] at this
  exact this
theorem m_missed {f : Hp} {a : Nat} (h : a < 6) : am_call 152 [.ref 50, .int (nI a)] f = some (msum (f 59) a, f) := by
  rw [eX9_missed_50]
  have key : ∀ d i, i + d = 6 → am_run 152 4 [.ref 50, .int (nI a), .int (sm (fun k => f 59 (6 * a + k)) i), .int (nI i)] [] f = some (msum (f 59) a, f) := by
    intro d
    induction d with
    | zero =>
      intro i hi
      have hi : i = 6 := by omega
      subst hi
      rw [eX9_missed_4_50, if_neg (by decide)]
      rfl
    | succ d ih =>
      intro i hi
      rw [eX9_missed_4_50, if_pos (show nI i < (6 : Int32) from nI_lt (b := 6) (by omega) (by omega)), idx6', am_ald_in _ _ _ (by omega) (by decide), nI_1, ← ih (i + 1) (by omega), sm]
  exact key 6 0 (by omega)
def rdL (h : Nat → Int32) (a b : Nat) : Int32 := if a = b then 100 - msum h a else h (6 * a + b)
theorem c_letterAs {f : Hp} {a b : Nat} (ha : a < 6) (hb : b < 6) : am_call 15 [.ref 20, .int (nI a), .int (nI b)] f = some (rdL (f 21) a b, f) := by
  rw [eX1_letterAs_20]
  unfold rdL
  by_cases h : a = b
  · rw [if_pos h, if_pos (by rw [h]), c_leftOf ha, am_cal_some]
  · rw [if_neg h, if_neg (fun z => h ((nI_eq (by omega) (by omega)).mp z)), idx6, am_ald_in _ _ _ (by omega) (by decide)]
theorem m_readLetter {f : Hp} {a b : Nat} (ha : a < 6) (hb : b < 6) : am_call 154 [.ref 50, .int (nI a), .int (nI b)] f = some (rdL (f 59) a b, f) := by
  rw [eX9_readLetter_50]
  unfold rdL
  by_cases h : a = b
  · rw [if_pos h, if_pos (by rw [h]), m_missed ha, am_cal_some]
  · rw [if_neg h, if_neg (fun z => h ((nI_eq (by omega) (by omega)).mp z)), idx6', am_ald_in _ _ _ (by omega) (by decide)]
def rdW (h : Nat → Int32) (w v : Nat) : Int32 := rdL h (w / 6) (v / 6) * rdL h (w % 6) (v % 6)
theorem div6 {w : Nat} (h : w < 36) : nI w / 6 = nI (w / 6) := pk_div (by omega) (by decide) (by decide)
theorem mod6 {w : Nat} (h : w < 36) : nI w - nI w / 6 * 6 = nI (w % 6) := pk_rem (by omega) (by decide) (by decide)
theorem c_readAs {f : Hp} {w v : Nat} (hw : w < 36) (hv : v < 36) : am_call 16 [.ref 20, .int (nI w), .int (nI v)] f = some (rdW (f 21) w v, f) := by
  rw [eX1_readAs_20]
  simp only [am_dv6]
  rw [mod6 hw, mod6 hv, div6 hw, div6 hv, c_letterAs (by omega) (by omega), am_cal_some, c_letterAs (by omega) (by omega), am_cal_some]
  rfl
theorem m_readAs {f : Hp} {w v : Nat} (hw : w < 36) (hv : v < 36) : am_call 155 [.ref 50, .int (nI w), .int (nI v)] f = some (rdW (f 59) w v, f) := by
  rw [eX9_readAs_50]
  simp only [am_dv6]
  rw [mod6 hw, mod6 hv, div6 hw, div6 hv, m_readLetter (by omega) (by omega), am_cal_some, m_readLetter (by omega) (by omega), am_cal_some]
  rfl
-- sides of a word, as a set
def setOf (p : Nat → Bool) : Nat → Nat
  | 0 => 0
  | n + 1 => if p n then setOf p n ||| 2 ^ n else setOf p n
theorem setOf_lt (p : Nat → Bool) : ∀ n, setOf p n < 2 ^ n
  | 0 => by simp [setOf]
  | n + 1 => by
    have ih := setOf_lt p n
    rw [setOf]
    split
    · exact Nat.or_lt_two_pow (by rw [Nat.pow_succ]; omega) (Nat.pow_lt_pow_right (by decide) (by omega))
    · rw [Nat.pow_succ]; omega
theorem setOf_bit (p : Nat → Bool) (i : Nat) : ∀ n, (setOf p n).testBit i = (decide (i < n) && p i)
  | 0 => by simp [setOf]
  | n + 1 => by
    have ih := setOf_bit p i n
    rw [setOf]
    by_cases h : i = n
    · subst h
      cases hp : p i
      · rw [if_neg (by simp), ih]
        simp
      · rw [if_pos rfl, Nat.testBit_or, ih, Nat.testBit_two_pow]
        simp
    · have e : (decide (i < n + 1)) = (decide (i < n)) := by
        rw [decide_eq_decide]
        omega
      rw [e]
      split
      · rw [Nat.testBit_or, ih, Nat.testBit_two_pow]
        have : ¬ n = i := fun z => h z.symm
        simp [this]
      · exact ih
theorem setOf_congr {p q : Nat → Bool} : ∀ {n : Nat}, (∀ k, k < n → p k = q k) → setOf p n = setOf q n
  | 0, _ => rfl
  | n + 1, h => by
    rw [setOf, setOf, h n (by omega), setOf_congr (fun k hk => h k (by omega))]
theorem setOf_more {p : Nat → Bool} {n : Nat} : ∀ (d : Nat), (∀ k, n ≤ k → k < n + d → p k = false) → setOf p (n + d) = setOf p n
  | 0, _ => rfl
  | d + 1, h => by
    rw [show n + (d + 1) = (n + d) + 1 by omega, setOf, h (n + d) (by omega) (by omega), if_neg (by simp)]
    exact setOf_more d (fun k h1 h2 => h k h1 (by omega))
theorem or_bit {S i : Nat} (hi : i < 31) : nI S ||| (1 <<< (nI i &&& 31)) = nI (S ||| 2 ^ i) := by
  rw [shl_one hi, nx_or]
/-- the sides that have a word, among the first n -/
def wSet (w : Nat → Int32) (x : Int32) (n : Nat) : Nat := setOf (fun s => decide (w s = x)) n
theorem c_sidesWith (f : Hp) (x : Int32) : am_call 46 [.ref 37, .int x] f = some (nI (wSet (f 38) x 9), f) := by
  rw [eX6_sidesWith_37]
  have key : ∀ d i, i + d = 9 → am_run 46 4 [.ref 37, .int x, .int (nI (wSet (f 38) x i)), .int (nI i)] [] f = some (nI (wSet (f 38) x 9), f) := by
    intro d
    induction d with
    | zero =>
      intro i hi
      have hi : i = 9 := by omega
      subst hi
      rw [eX6_sidesWith_4_37, if_neg (by decide)]
    | succ d ih =>
      intro i hi
      rw [eX6_sidesWith_4_37, if_pos (show nI i < (9 : Int32) from nI_lt (b := 9) (by omega) (by omega)), am_ald_in _ _ _ (by omega) (by decide), nI_1, or_bit (by omega), ← ih (i + 1) (by omega)]
      have e : wSet (f 38) x (i + 1) = if f 38 i = x then wSet (f 38) x i ||| 2 ^ i else wSet (f 38) x i := by
        unfold wSet
        rw [setOf]
        simp only [decide_eq_true_eq]
      rw [e]
      split <;> rfl
  exact key 9 0 (by omega)
theorem m_codeOf {f : Hp} {n : Nat} (hn : f 50 0 = nI n) (h9 : n ≤ 9) (x : Int32) : am_call 164 [.ref 50, .int x] f = some (nI (wSet (f 60) x n), f) := by
  rw [eX9_codeOf_50]
  have key : ∀ d i, i + d = n → am_run 164 4 [.ref 50, .int x, .int (nI (wSet (f 60) x i)), .int (nI i)] [] f = some (nI (wSet (f 60) x n), f) := by
    intro d
    induction d with
    | zero =>
      intro i hi
      have hi : i = n := by omega
      subst hi
      rw [eX9_codeOf_4_50, hn, if_neg (nI_nlt (Nat.le_refl _) (by omega))]
    | succ d ih =>
      intro i hi
      rw [eX9_codeOf_4_50, hn, if_pos (nI_lt (by omega) (by omega)), am_ald_in _ _ _ (by omega) (by decide), nI_1, or_bit (by omega), ← ih (i + 1) (by omega)]
      have e : wSet (f 60) x (i + 1) = if f 60 i = x then wSet (f 60) x i ||| 2 ^ i else wSet (f 60) x i := by
        unfold wSet
        rw [setOf]
        simp only [decide_eq_true_eq]
      rw [e, Int32.or_zero]
      split <;> rfl
  exact key n 0 (by omega)
theorem m_isAlive {f : Hp} {n : Nat} (hn : f 50 0 = nI n) (h9 : n ≤ 9) (x : Int32) : am_call 162 [.ref 50, .int x] f = some (bi (decide (wSet (f 60) x n ≠ 0)), f) := by
  rw [eX9_isAlive_50]
  have key : ∀ d i, i + d = n → am_run 162 4 [.ref 50, .int x, .int (bi (decide (wSet (f 60) x i ≠ 0))), .int (nI i)] [] f = some (bi (decide (wSet (f 60) x n ≠ 0)), f) := by
    intro d
    induction d with
    | zero =>
      intro i hi
      have hi : i = n := by omega
      subst hi
      rw [eX9_isAlive_4_50, hn, if_neg (nI_nlt (Nat.le_refl _) (by omega)), am_z_bi]
    | succ d ih =>
      intro i hi
      rw [eX9_isAlive_4_50, hn, if_pos (nI_lt (by omega) (by omega)), am_ald_in _ _ _ (by omega) (by decide), nI_1, ← ih (i + 1) (by omega)]
      simp only [bi_eq0]
      have e : wSet (f 60) x (i + 1) = if f 60 i = x then wSet (f 60) x i ||| 2 ^ i else wSet (f 60) x i := by
        unfold wSet
        rw [setOf]
        simp only [decide_eq_true_eq]
      have hne : wSet (f 60) x i ||| 2 ^ i ≠ 0 := by
        have h1 : 2 ^ i ≤ wSet (f 60) x i ||| 2 ^ i := Nat.right_le_or
        have h2 : 0 < 2 ^ i := Nat.two_pow_pos i
        omega
      rw [e]
      by_cases h1 : wSet (f 60) x i = 0 <;> by_cases h2 : f 60 i = x <;> simp [h1, h2, hne, bi]
  have h0 : bi (decide (wSet (f 60) x 0 ≠ 0)) = 0 := rfl
  have := key n 0 (by omega)
  rw [h0] at this
  exact this
theorem c_codeOf {f : Hp} {s : Nat} (h : s < 9) : am_call 47 [.ref 37, .int (nI s)] f = some (nI (if f 38 s < 0 then 0 else wSet (f 38) (f 38 s) 9), f) := by
  rw [eX6_codeOf_37, am_ald_in _ _ _ h (by decide), am_ald_in _ _ _ h (by decide), c_sidesWith, am_cal_some]
  split <;> rfl
/-- what a word leads to on a day -/
def ledP (w : Nat → Int32) (u : Nat → Int32) (x day : Int32) (s : Nat) : Bool := decide (w s = x) || (decide (0 ≤ w s) && decide (day ≤ u s))
def ledS (w : Nat → Int32) (u : Nat → Int32) (x day : Int32) (m : Nat) : Nat → Nat
  | 0 => 0
  | n + 1 => if ledP w u x day n then ledS w u x day m n ||| wSet w (w n) m else ledS w u x day m n
theorem led_or (S T : Nat) : nI S ||| nI T = nI (S ||| T) := nx_or S T
theorem idx36 (s w : Nat) : nI s * 36 + nI w = nI (s * 36 + w) := by
  show nI s * nI 36 + nI w = _
  rw [pk_mul, nI_add]
theorem idx9 (a b : Nat) : nI a * 9 + nI b = nI (a * 9 + b) := by
  show nI a * nI 9 + nI b = _
  rw [pk_mul, nI_add]
theorem idx9' (a b : Nat) : 9 * nI a + nI b = nI (9 * a + b) := by
  show nI 9 * nI a + nI b = _
  rw [pk_mul, nI_add]
theorem nI_m1 {n : Nat} (h : n < 2 ^ 31) : ¬ nI n = -1 := by
  intro z
  have := nI_pos h
  rw [z] at this
  exact this (by decide)
theorem c_ledTo {f : Hp} {w : Nat} (hw : w < 36) (day : Int32) : am_call 48 [.ref 37, .int (nI w), .int day] f = some (nI (ledS (f 38) (fun s => f 39 (s * 36 + w)) (nI w) day 9 9), f) := by
  rw [eX6_ledTo_37]
  have key : ∀ d i, i + d = 9 → am_run 48 5 [.ref 37, .int (nI w), .int day, .int (nI (ledS (f 38) (fun s => f 39 (s * 36 + w)) (nI w) day 9 i)), .int (nI i)] [] f = some (nI (ledS (f 38) (fun s => f 39 (s * 36 + w)) (nI w) day 9 9), f) := by
    intro d
    induction d with
    | zero =>
      intro i hi
      have hi : i = 9 := by omega
      subst hi
      rw [eX6_ledTo_5_37, if_neg (by decide)]
    | succ d ih =>
      intro i hi
      rw [eX6_ledTo_5_37, if_pos (show nI i < (9 : Int32) from nI_lt (b := 9) (by omega) (by omega)), am_ald_in _ _ _ (by omega) (by decide), idx36, am_ald_in _ _ _ (by omega) (by decide), c_codeOf (by omega), am_cal_some, nI_1, ← ih (i + 1) (by omega), led_or]
      rw [ledS]
      unfold ledP
      by_cases h1 : f 38 i = nI w
      · have h0 : ¬ f 38 i < 0 := by rw [h1]; exact nI_pos (by omega)
        simp [h1, nI_pos (n := w) (by omega)]
      · by_cases h2 : f 39 (i * 36 + w) < day
        · have h3 : ¬ day ≤ f 39 (i * 36 + w) := Int32.not_le.mpr h2
          simp [h1, h2, h3]
        · have h3 : day ≤ f 39 (i * 36 + w) := Int32.not_lt.mp h2
          by_cases h4 : f 38 i < 0
          · have h5 : ¬ 0 ≤ f 38 i := Int32.not_le.mpr h4
            simp [h1, h2, h4, h5]
          · have h5 : 0 ≤ f 38 i := Int32.not_lt.mp h4
            simp [h1, h2, h3, h4, h5]
  exact key 9 0 (by omega)
theorem m_leadOf {f : Hp} {n w : Nat} (hn : f 50 0 = nI n) (h9 : n ≤ 9) (hw : w < 36) (day : Int32) : am_call 167 [.ref 50, .int (nI w), .int day] f = some (nI (ledS (f 60) (fun s => f 61 (9 * w + s)) (nI w) day n n), f) := by
  rw [eX9_leadOf_50]
  have key : ∀ d i, i + d = n → am_run 167 5 [.ref 50, .int (nI w), .int day, .int (nI (ledS (f 60) (fun s => f 61 (9 * w + s)) (nI w) day n i)), .int (nI i), .null] [] f = some (nI (ledS (f 60) (fun s => f 61 (9 * w + s)) (nI w) day n n), f) := by
    intro d
    induction d with
    | zero =>
      intro i hi
      have hi : i = n := by omega
      subst hi
      rw [eX9_leadOf_5_50, hn, if_neg (nI_nlt (Nat.le_refl _) (by omega))]
    | succ d ih =>
      intro i hi
      have hal : ∀ (k : Int32 → Option Rs), am_ald f 60 27 (nI i) k = k (f 60 i) := fun k => am_ald_in f 60 k (by omega) (by decide)
      rw [eX9_leadOf_5_50, hn, if_pos (nI_lt (by omega) (by omega))]
      simp only [hal, idx9', m_codeOf hn h9, am_cal_some, nI_1, Int32.or_zero, led_or]
      rw [am_ald_in _ _ _ (by omega) (by decide), ← ih (i + 1) (by omega), ledS]
      unfold ledP
      by_cases h1 : f 60 i = nI w
      · simp [h1]
      · by_cases h4 : f 60 i < 0
        · have h5 : ¬ 0 ≤ f 60 i := Int32.not_le.mpr h4
          simp [h1, h4, h5]
        · have h5 : 0 ≤ f 60 i := Int32.not_lt.mp h4
          by_cases h2 : f 61 (9 * w + i) < day
          · have h3 : ¬ day ≤ f 61 (9 * w + i) := Int32.not_le.mpr h2
            simp [h1, h2, h3, h4]
          · have h3 : day ≤ f 61 (9 * w + i) := Int32.not_lt.mp h2
            simp [h1, h2, h3, h4, h5]
  exact key n 0 (by omega)
theorem wSet_more {w : Nat → Int32} {x : Int32} {n : Nat} (h9 : n ≤ 9) (h : ∀ s, n ≤ s → s < 9 → w s = -1) (hx : x ≠ -1) : wSet w x 9 = wSet w x n := by
  unfold wSet
  have := setOf_more (p := fun s => decide (w s = x)) (n := n) (9 - n) (fun k h1 h2 => by
    rw [h k h1 (by omega)]
    simp
    exact fun z => hx z.symm)
  rwa [show n + (9 - n) = 9 by omega] at this
theorem wSet_congr {w v : Nat → Int32} {x : Int32} {n : Nat} (h : ∀ s, s < n → w s = v s) : wSet w x n = wSet v x n := by
  unfold wSet
  exact setOf_congr (fun k hk => by rw [h k hk])
/-- both towns lead alike -/
theorem ledS_eq {w v u t : Nat → Int32} {x day : Int32} {n : Nat} (h9 : n ≤ 9) (hw : ∀ s, s < n → w s = v s) (hm : ∀ s, n ≤ s → s < 9 → w s = -1) (hu : ∀ s, s < n → u s = t s) (hx : x ≠ -1) (hv : ∀ s, s < n → v s < 0 → v s = -1) (hall : ∀ s, s < n → 0 ≤ v s ∨ v s = -1) : ledS w u x day 9 9 = ledS v t x day n n := by
  have h1 : ∀ i, i ≤ n → ledS w u x day 9 i = ledS v t x day n i := by
    intro i
    induction i with
    | zero => intro _; rfl
    | succ i ih =>
      intro hi
      rw [ledS, ledS, ih (by omega)]
      have e1 : ledP w u x day i = ledP v t x day i := by
        unfold ledP
        rw [hw i (by omega), hu i (by omega)]
      rw [e1]
      cases hp : ledP v t x day i
      · rfl
      · have hne : w i ≠ -1 := by
          rw [hw i (by omega)]
          intro z
          unfold ledP at hp
          rw [z] at hp
          have : ¬ (0 : Int32) ≤ -1 := by decide
          simp [this] at hp
          exact hx hp.symm
        rw [if_pos rfl, if_pos rfl, wSet_more h9 hm hne, wSet_congr hw, hw i (by omega)]
  have h2 : ∀ d, n + d ≤ 9 → ledS w u x day 9 (n + d) = ledS w u x day 9 n := by
    intro d
    induction d with
    | zero => intro _; rfl
    | succ d ih =>
      intro hd
      rw [show n + (d + 1) = (n + d) + 1 by omega, ledS, ih (by omega)]
      have : ledP w u x day (n + d) = false := by
        unfold ledP
        rw [hm (n + d) (by omega) (by omega)]
        have h3 : ¬ (0 : Int32) ≤ -1 := by decide
        simp [h3]
        exact fun z => hx z.symm
      rw [this]
      rfl
  have := h2 (9 - n) (by omega)
  rw [show n + (9 - n) = 9 by omega] at this
  rw [this, h1 n (Nat.le_refl n)]
