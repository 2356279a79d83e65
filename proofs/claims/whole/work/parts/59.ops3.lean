section Ops3
variable {n : Nat} {lk ln : Nat → Nat} {c : Nat} {mr : Nat → Nat} {t kc : Nat} {f g : Hp}
/-- what a word leads to, as the class has it -/
def ldF (f : Hp) (w : Nat) (day : Int32) : Nat := ledS (f 38) (fun s => f 39 (s * 36 + w)) (nI w) day 9 9
theorem c_led {w : Nat} (hw : w < 36) (day : Int32) : am_call 48 [.ref 37, .int (nI w), .int day] f = some (nI (ldF f w day), f) := c_ledTo hw day
theorem Iv.m_led (h : Iv n lk ln c mr t kc f) {w : Nat} (hw : w < 36) (day : Int32) : am_call 167 [.ref 50, .int (nI w), .int day] f = some (nI (ldF f w day), f) := by
  rw [m_leadOf h.n0 h.n9 hw, h.led hw]; rfl
/-- is a side wrong in an edition -/
def wrP (f : Hp) (i : Nat) (day : Int32) (s : Nat) : Bool := !decide (f 40 (i * 9 + s) = f 38 s) && !hb (nI (ldF f (f 40 (i * 9 + s)).toNatClampNeg day)) (nI s)
theorem c_misp {i s v : Nat} (hi : i < 10) (hs : s < 9) (hv : v < 36) (he : f 40 (i * 9 + s) = nI v) (day : Int32) : am_call 54 [.ref 37, .int (nI i), .int (nI s), .int day] f = some (bi (wrP f i day s), f) := by
  unfold wrP
  rw [eX6_isMisprinted_37, eX6_printed_37, idx9, am_ald_in _ _ _ (show i * 9 + s < 90 by omega) (by decide), am_cal_some, am_ald_in _ _ _ hs (by decide), he, nI_clamp (by omega), if_neg (nI_pos (show v < 2 ^ 31 by omega)), c_led hv, am_cal_some, c_hasG, am_cal_some]
  by_cases e : nI v = f 38 s
  · rw [if_pos e, decide_eq_true e]; rfl
  · rw [if_neg e, decide_eq_false e]
    cases hb (nI (ldF f v day)) (nI s) <;> rfl
theorem c_wrL {i e : Nat} (h : Iv n lk ln c mr t kc f) (hi : i < e) (he : e ≤ 10) (hv : ∀ s, s < n → ∃ v, v < 36 ∧ f 40 (i * 9 + s) = nI v) (day : Int32) : ∀ d s, s + d = n → am_run 102 36 [.ref 1, .int (nI i), .int day, .int (nI (setOf (wrP f i day) s)), .int (nI s)] [] f = some (nI (setOf (wrP f i day) n), f) := by
  have h9 := h.n9
  intro d
  induction d with
  | zero =>
    intro s hs
    have : s = n := by omega
    subst this
    rw [eX8_wrong_36_1, h.n7, if_neg (nI_nlt (by omega) (by omega))]
  | succ d ih =>
    intro s hs
    obtain ⟨v, v1, v2⟩ := hv s (by omega)
    rw [eX8_wrong_36_1, h.n7, if_pos (nI_lt (by omega) (by omega)), c_misp (by omega) (by omega) v1 v2, am_cal_some, or_bit (by omega), nI_1, ← ih (s + 1) (by omega), setOf]
    cases wrP f i day s <;> rfl
theorem m_wrL {i e : Nat} (h : Iv n lk ln c mr t kc f) (hi : i < e) (he : e ≤ 10) (hv : ∀ s, s < n → ∃ v, v < 36 ∧ f 40 (i * 9 + s) = nI v) (day : Int32) : ∀ d s, s + d = n → am_run 182 45 [.ref 50, .int (nI i), .int day, .int (nI (setOf (wrP f i day) s)), .int (nI s), .null, .null] [] f = some (nI (setOf (wrP f i day) n), f) := by
  have h9 := h.n9
  intro d
  induction d with
  | zero =>
    intro s hs
    have : s = n := by omega
    subst this
    rw [eX9_wrong_45_50, h.n0, if_neg (nI_nlt (by omega) (by omega))]
  | succ d ih =>
    intro s hs
    obtain ⟨v, v1, v2⟩ := hv s (by omega)
    have z0 : ∀ x : Int32, x ||| 0 = x := fun x => by
      apply Int32.toBitVec_inj.1
      show x.toBitVec ||| 0 = x.toBitVec
      simp
    have hwp : wrP f i day s = (!decide (nI v = f 38 s) && !hb (nI (ldF f v day)) (nI s)) := by
      unfold wrP
      rw [v2, nI_clamp (by omega)]
    have ih' := ih (s + 1) (by omega)
    rw [setOf, hwp] at ih'
    rw [eX9_wrong_45_50, h.n0, if_pos (nI_lt (by omega) (by omega)), idx9', am_ald_in _ _ _ (show 9 * i + s < 270 by omega) (by decide), h.tb _ (by omega), Nat.mul_comm 9 i, v2, if_neg (nI_pos (show v < 2 ^ 31 by omega)), h.m_led v1, am_cal_some, m_hasG, am_cal_some, z0, or_bit (by omega), nI_1]
    cases hbb : hb (nI (ldF f v day)) (nI s) with
    | true =>
      rw [hbb] at ih'
      simp only [Bool.not_true, Bool.and_false, Bool.false_eq_true, if_false] at ih'
      rw [bi_t, if_neg one_ne, am_ald_in _ _ _ (show s < 27 by omega) (by decide), h.tw s (by omega)]
      by_cases e : f 38 s = nI v
      · rw [if_pos e]
        exact ih'
      · rw [if_neg e, if_neg (by decide)]
        exact ih'
    | false =>
      rw [hbb] at ih'
      rw [bi_f, if_pos rfl, am_ald_in _ _ _ (show s < 27 by omega) (by decide), h.tw s (by omega), if_pos rfl]
      by_cases e : nI v = f 38 s
      · rw [decide_eq_true e] at ih'
        simp only [Bool.not_true, Bool.false_and, Bool.false_eq_true, if_false] at ih'
        rw [if_pos e.symm]
        exact ih'
      · rw [decide_eq_false e] at ih'
        simp only [Bool.not_false, Bool.true_and, if_true] at ih'
        rw [if_neg (fun z => e z.symm)]
        exact ih'

theorem op_wrong (h : Iv n lk ln c mr t kc f) (a1 a2 : Int32) : OP 102 182 [.int a1, .int a2] f := by
  by_cases e1 : wi a1 0 (f 37 3 - 1) = true
  case neg =>
    have e1 : wi a1 0 (f 37 3 - 1) = false := by simpa using e1
    exact OP.same h (r := -1) (by rw [eX8_wrong_1, c_isEdition, am_cal_some, e1, bi_f, if_pos rfl]) (by rw [eX9_wrong_50, ald_0 _ _ _ (by decide) (by decide), h.te, m_in' _ _ 0 (f 37 3 - 1) (by decide) rfl, am_cal_some, e1, bi_f, if_pos rfl])
  by_cases e2 : wi a2 0 14600 = true
  case neg =>
    have e2 : wi a2 0 14600 = false := by simpa using e2
    exact OP.same h (r := -1) (by rw [eX8_wrong_1, c_isEdition, am_cal_some, e1, bi_t, if_neg one_ne, c_isDay, am_cal_some, e2, bi_f, if_pos rfl]) (by rw [eX9_wrong_50, ald_0 _ _ _ (by decide) (by decide), h.te, m_in' _ _ 0 (f 37 3 - 1) (by decide) rfl, am_cal_some, e1, bi_t, if_neg one_ne, m_isDay, am_cal_some, e2, bi_f, if_pos rfl])
  by_cases e3 : a2 < f 37 4
  case pos =>
    exact OP.same h (r := -2) (by rw [eX8_wrong_1, c_isEdition, am_cal_some, e1, bi_t, if_neg one_ne, c_isDay, am_cal_some, e2, bi_t, if_neg one_ne, if_pos e3]) (by rw [eX9_wrong_50, ald_0 _ _ _ (by decide) (by decide), h.te, m_in' _ _ 0 (f 37 3 - 1) (by decide) rfl, am_cal_some, e1, bi_t, if_neg one_ne, m_isDay, am_cal_some, e2, bi_t, if_neg one_ne, ald_0 _ _ _ (by decide) (by decide), h.tl, if_pos e3])
  obtain ⟨i, ed, hi, hed, rfl, -, hv⟩ := h.edn e1
  have k1 : am_run 102 36 [.ref 1, .int (nI i), .int a2, .int 0, .int 0] [] f = _ := c_wrL h hi hed hv a2 n 0 (by omega)
  have k2 : am_run 182 45 [.ref 50, .int (nI i), .int a2, .int 0, .int 0, .null, .null] [] f = _ := m_wrL h hi hed hv a2 n 0 (by omega)
  refine OP.same h (r := nI (setOf (wrP f i a2) n)) ?_ ?_
  · rw [eX8_wrong_1, c_isEdition, am_cal_some, e1, bi_t, if_neg one_ne, c_isDay, am_cal_some, e2, bi_t, if_neg one_ne, if_neg e3, k1]
  · rw [eX9_wrong_50, ald_0 _ _ _ (by decide) (by decide), h.te, m_in' _ _ 0 (f 37 3 - 1) (by decide) rfl, am_cal_some, e1, bi_t, if_neg one_ne, m_isDay, am_cal_some, e2, bi_t, if_neg one_ne, ald_0 _ _ _ (by decide) (by decide), h.tl, if_neg e3, k2]
/-- is a word some side's -/
def alB (f : Hp) (w : Nat) : Bool := decide (wSet (f 38) (nI w) 9 ≠ 0)
theorem Iv.alive (h : Iv n lk ln c mr t kc f) {w : Nat} (hw : w < 36) : am_call 162 [.ref 50, .int (nI w)] f = some (bi (alB f w), f) := by
  rw [m_isAlive h.n0 h.n9, h.cod (nI_m1 (by omega))]; rfl
theorem c_sw (w : Nat) : am_call 46 [.ref 37, .int (nI w)] f = some (nI (wSet (f 38) (nI w) 9), f) := c_sidesWith f (nI w)
theorem al_0 (w : Nat) : (nI (wSet (f 38) (nI w) 9) = 0) = (alB f w = false) := by
  have h1 : wSet (f 38) (nI w) 9 < 2 ^ 9 := wSet_lt _ _ 9
  unfold alB
  by_cases e : wSet (f 38) (nI w) 9 = 0
  · rw [e]; simp [nI_0]
  · have := nI_nez e (by omega)
    simp [e, this]
theorem c_cntC : ∀ d w, w + d = 36 → am_run 50 4 [.ref 37, .int (nI (cx (alB f) w)), .int (nI w)] [] f = some (nI (cx (alB f) 36), f) := by
  intro d
  induction d with
  | zero =>
    intro w hw
    have : w = 36 := by omega
    subst this
    rw [eX6_countCodes_4_37, if_neg (by decide)]
  | succ d ih =>
    intro w hw
    rw [eX6_countCodes_4_37, if_pos (show nI w < (36 : Int32) from nI_lt (b := 36) (by omega) (by decide)), c_sw, am_cal_some, nI_1, nI_1, ← ih (w + 1) (by omega), cx]
    simp only [al_0]
    cases alB f w <;> rfl
theorem m_cntC (h : Iv n lk ln c mr t kc f) : ∀ d w, w + d = 36 → am_run 186 125 [.ref 50, .null, .int (nI (cx (alB f) w)), .int (nI w), .null] [] f = some (nI (cx (alB f) 36), f) := by
  intro d
  induction d with
  | zero =>
    intro w hw
    have : w = 36 := by omega
    subst this
    rw [eX9_count_125_50, if_neg (by decide)]
  | succ d ih =>
    intro w hw
    rw [eX9_count_125_50, if_pos (show nI w < (36 : Int32) from nI_lt (b := 36) (by omega) (by decide)), h.alive (by omega), am_cal_some, nI_1, nI_1, Int32.add_zero, ← ih (w + 1) (by omega), cx]
    cases alB f w <;> rfl
/-- a word that none has and that leads somewhere -/
def olB (f : Hp) (w : Nat) : Bool := !alB f w && !decide (nI (ldF f w (f 37 4)) = 0)
theorem c_cntO : ∀ d w, w + d = 36 → am_run 51 13 [.ref 37, .int (nI (cx (olB f) w)), .int (nI w)] [] f = some (nI (cx (olB f) 36), f) := by
  intro d
  induction d with
  | zero =>
    intro w hw
    have : w = 36 := by omega
    subst this
    rw [eX6_countOldWords_13_37, if_neg (by decide)]
  | succ d ih =>
    intro w hw
    rw [eX6_countOldWords_13_37, if_pos (show nI w < (36 : Int32) from nI_lt (b := 36) (by omega) (by decide)), c_sw, am_cal_some, c_led (by omega), am_cal_some, nI_1, nI_1, ← ih (w + 1) (by omega), cx]
    simp only [al_0]
    unfold olB
    cases alB f w with
    | true => rfl
    | false =>
      by_cases e : nI (ldF f w (f 37 4)) = 0
      · simp [e]
      · simp [e]
theorem m_cntO (h : Iv n lk ln c mr t kc f) (hg : ¬ f 37 4 < 0) : ∀ d w, w + d = 36 → am_run 186 157 [.ref 50, .null, .int (nI (cx (olB f) w)), .int (nI w), .null] [] f = some (nI (cx (olB f) 36), f) := by
  intro d
  induction d with
  | zero =>
    intro w hw
    have : w = 36 := by omega
    subst this
    rw [eX9_count_157_50, if_neg (by decide)]
  | succ d ih =>
    intro w hw
    rw [eX9_count_157_50, if_pos (show nI w < (36 : Int32) from nI_lt (b := 36) (by omega) (by decide)), h.areGiven, am_cal_some, decide_eq_false hg, Bool.not_false, bi_t, if_neg one_ne, h.alive (by omega), am_cal_some, ald_0 _ _ _ (by decide) (by decide), h.tl, h.m_led (by omega), am_cal_some, nI_1, nI_1, Int32.add_zero, ← ih (w + 1) (by omega), cx]
    unfold olB
    cases alB f w with
    | true => rfl
    | false =>
      by_cases e : nI (ldF f w (f 37 4)) = 0
      · simp [e, bi]
      · simp [e, bi]
theorem m_cntN (h : Iv n lk ln c mr t kc f) (hg : f 37 4 < 0) : ∀ d w, w + d = 36 → am_run 186 157 [.ref 50, .null, .int 0, .int (nI w), .null] [] f = some (0, f) := by
  intro d
  induction d with
  | zero =>
    intro w hw
    have : w = 36 := by omega
    subst this
    rw [eX9_count_157_50, if_neg (by decide)]
  | succ d ih =>
    intro w hw
    rw [eX9_count_157_50, if_pos (show nI w < (36 : Int32) from nI_lt (b := 36) (by omega) (by decide)), h.areGiven, am_cal_some, decide_eq_true hg, Bool.not_true, bi_f, if_pos rfl, nI_1, Int32.add_zero, ih (w + 1) (by omega)]
-- links
def lkN (lk : Nat → Nat) (a b : Nat) : Nat := if 0 < lk (9 * a + b) then 1 else 0
/-- b, b + 1, .. (d of them) -/
def lkR (lk : Nat → Nat) (a : Nat) : Nat → Nat → Nat
  | 0, _ => 0
  | d + 1, b => lkN lk a b + lkR lk a d (b + 1)
theorem c_lkR (h : Iv n lk ln c mr t kc f) {a : Nat} (ha : a < 9) : ∀ d b s, b + d = 9 → am_run 29 14 [.ref 2, .int (nI s), .int (nI a), .int (nI b)] [] f = am_run 29 4 [.ref 2, .int (nI (s + lkR lk a d b)), .int (nI (a + 1)), .null] [] f := by
  intro d
  induction d with
  | zero =>
    intro b s hb
    have : b = 9 := by omega
    subst this
    rw [eX4_countLinks_14_2, if_neg (by decide), nI_1]; rfl
  | succ d ih =>
    intro b s hb
    have hlb := h.lb (9 * a + b)
    rw [eX4_countLinks_14_2, if_pos (show nI b < (9 : Int32) from nI_lt (b := 9) (by omega) (by decide)), idx9, Nat.mul_comm a 9, am_ald_in _ _ _ (show 9 * a + b < 81 by omega) (by decide), h.1.1.2.2.1, nI_1, nI_1, ih (b + 1) (s + 1) (by omega), ih (b + 1) s (by omega), lkR]
    unfold lkN
    by_cases e : 0 < lk (9 * a + b)
    · rw [if_pos (show (0 : Int32) < nI (lk (9 * a + b)) from nI_lt (a := 0) e (by omega)), if_pos e, Nat.add_assoc]
    · have e0 : lk (9 * a + b) = 0 := by omega
      rw [e0, if_neg (by decide), if_neg (by decide), Nat.zero_add]
theorem m_lkR (h : Iv n lk ln c mr t kc f) {a : Nat} (ha : a < 9) : ∀ d b s, b + d = a → am_run 186 68 [.ref 50, .null, .int (nI s), .int (nI a), .int (nI b)] [] f = am_run 186 59 [.ref 50, .null, .int (nI (s + lkR lk a d b)), .int (nI (a + 1)), .null] [] f := by
  intro d
  induction d with
  | zero =>
    intro b s hb
    have : b = a := by omega
    subst this
    rw [eX9_count_68_50, if_neg (nI_nlt (Nat.le_refl _) (by omega)), nI_1]; rfl
  | succ d ih =>
    intro b s hb
    have hlb := h.lb (9 * a + b)
    rw [eX9_count_68_50, if_pos (nI_lt (by omega) (by omega)), idx9', am_ald_in _ _ _ (show 9 * a + b < 81 by omega) (by decide), h.1.2.1.2.2.2.2.2, h.1.1.2.2.1, nI_1, nI_1, Int32.add_zero, ih (b + 1) (s + 1) (by omega), ih (b + 1) s (by omega), lkR]
    unfold lkN
    by_cases e : 0 < lk (9 * a + b)
    · rw [if_pos (show (0 : Int32) < nI (lk (9 * a + b)) from nI_lt (a := 0) e (by omega)), if_pos e, Nat.add_assoc]
    · have e0 : lk (9 * a + b) = 0 := by omega
      rw [e0, if_neg (by decide), if_neg (by decide), Nat.zero_add]
def lkC (lk : Nat → Nat) : Nat → Nat
  | 0 => 0
  | a + 1 => lkC lk a + lkR lk a (8 - a) (a + 1)
def lkM (lk : Nat → Nat) : Nat → Nat
  | 0 => 0
  | a + 1 => lkM lk a + lkR lk a a 0
theorem c_links (h : Iv n lk ln c mr t kc f) : ∀ d a, a + d = 9 → am_run 29 4 [.ref 2, .int (nI (lkC lk a)), .int (nI a), .null] [] f = some (nI (lkC lk 9), f) := by
  intro d
  induction d with
  | zero =>
    intro a ha
    have : a = 9 := by omega
    subst this
    rw [eX4_countLinks_4_2, if_neg (by decide)]
  | succ d ih =>
    intro a ha
    rw [eX4_countLinks_4_2, if_pos (show nI a < (9 : Int32) from nI_lt (b := 9) (by omega) (by decide)), nI_1, c_lkR h (by omega) (8 - a) (a + 1) _ (by omega), ← ih (a + 1) (by omega), lkC]
theorem m_links (h : Iv n lk ln c mr t kc f) : ∀ d a, a + d = 9 → am_run 186 59 [.ref 50, .null, .int (nI (lkM lk a)), .int (nI a), .null] [] f = some (nI (lkM lk 9), f) := by
  intro d
  induction d with
  | zero =>
    intro a ha
    have : a = 9 := by omega
    subst this
    rw [eX9_count_59_50, if_neg (by decide)]
  | succ d ih =>
    intro a ha
    have := m_lkR h (show a < 9 by omega) a 0 (lkM lk a) (by omega)
    have : am_run 186 68 [.ref 50, .null, .int (nI (lkM lk a)), .int (nI a), .int 0] [] f = _ := this
    rw [eX9_count_59_50, if_pos (show nI a < (9 : Int32) from nI_lt (b := 9) (by omega) (by decide)), this, ← ih (a + 1) (by omega), lkM]
theorem lk_sym (h : ∀ a b, a < 9 → b < 9 → lk (9 * a + b) = lk (9 * b + a)) : lkC lk 9 = lkM lk 9 := by
  have s : ∀ a b, a < 9 → b < 9 → lkN lk a b = lkN lk b a := fun a b ha hb => by unfold lkN; rw [h a b ha hb]

  have s0 := s 1 0 (by decide) (by decide)
  have s1 := s 2 0 (by decide) (by decide)
  have s2 := s 2 1 (by decide) (by decide)
  have s3 := s 3 0 (by decide) (by decide)
  have s4 := s 3 1 (by decide) (by decide)
  have s5 := s 3 2 (by decide) (by decide)
  have s6 := s 4 0 (by decide) (by decide)
  have s7 := s 4 1 (by decide) (by decide)
  have s8 := s 4 2 (by decide) (by decide)
  have s9 := s 4 3 (by decide) (by decide)
  have s10 := s 5 0 (by decide) (by decide)
  have s11 := s 5 1 (by decide) (by decide)
  have s12 := s 5 2 (by decide) (by decide)
  have s13 := s 5 3 (by decide) (by decide)
  have s14 := s 5 4 (by decide) (by decide)
  have s15 := s 6 0 (by decide) (by decide)
  have s16 := s 6 1 (by decide) (by decide)
  have s17 := s 6 2 (by decide) (by decide)
  have s18 := s 6 3 (by decide) (by decide)
  have s19 := s 6 4 (by decide) (by decide)
  have s20 := s 6 5 (by decide) (by decide)
  have s21 := s 7 0 (by decide) (by decide)
  have s22 := s 7 1 (by decide) (by decide)
  have s23 := s 7 2 (by decide) (by decide)
  have s24 := s 7 3 (by decide) (by decide)
  have s25 := s 7 4 (by decide) (by decide)
  have s26 := s 7 5 (by decide) (by decide)
  have s27 := s 7 6 (by decide) (by decide)
  have s28 := s 8 0 (by decide) (by decide)
  have s29 := s 8 1 (by decide) (by decide)
  have s30 := s 8 2 (by decide) (by decide)
  have s31 := s 8 3 (by decide) (by decide)
  have s32 := s 8 4 (by decide) (by decide)
  have s33 := s 8 5 (by decide) (by decide)
  have s34 := s 8 6 (by decide) (by decide)
  have s35 := s 8 7 (by decide) (by decide)
  simp only [lkC, lkM, lkR, Nat.reduceSub, Nat.reduceAdd]
  omega
theorem op_count (h : Iv n lk ln c mr t kc f) (a1 : Int32) : OP 105 186 [.int a1] f := by
  have p1 : am_run 29 4 [.ref 2, .int 0, .int 0, .null] [] f = _ := c_links h 9 0 (by omega)
  have p2 : am_run 186 59 [.ref 50, .null, .int 0, .int 0, .null] [] f = _ := m_links h 9 0 (by omega)
  have p3 : am_run 50 4 [.ref 37, .int 0, .int 0] [] f = _ := c_cntC 36 0 (by omega)
  have p4 : am_run 186 125 [.ref 50, .null, .int 0, .int 0, .null] [] f = _ := m_cntC h 36 0 (by omega)
  have p5 : am_run 51 13 [.ref 37, .int 0, .int 0] [] f = _ := c_cntO 36 0 (by omega)
  by_cases e0 : a1 = 0
  · exact OP.same h (r := nI n) (by rw [eX8_count_1, if_pos e0, h.n7]) (by rw [eX9_count_50, if_pos e0, h.n0])
  by_cases e1 : a1 = 1
  · exact OP.same h (r := nI (lkC lk 9)) (by rw [eX8_count_1, if_neg e0, if_pos e1, eX4_countLinks_2, p1, am_cal_some]) (by rw [eX9_count_50, if_neg e0, if_pos e1, p2, lk_sym h.1.2.2.1])
  by_cases e2 : a1 = 2
  · exact OP.same h (r := nI t) (by rw [eX8_count_1, if_neg e0, if_neg e1, if_pos e2, h.2.2.1.1]) (by rw [eX9_count_50, if_neg e0, if_neg e1, if_pos e2, h.2.2.1.2.2.1])
  by_cases e3 : a1 = 3
  · exact OP.same h (r := nI c) (by rw [eX8_count_1, if_neg e0, if_neg e1, if_neg e2, if_pos e3, h.c3]) (by rw [eX9_count_50, if_neg e0, if_neg e1, if_neg e2, if_pos e3, ald_1 _ _ _ (by decide) (by decide), h.c1])
  by_cases e4 : a1 = 4
  · exact OP.same h (r := nI (cx (alB f) 36)) (by rw [eX8_count_1, if_neg e0, if_neg e1, if_neg e2, if_neg e3, if_pos e4, eX6_countCodes_37, p3, am_cal_some]) (by rw [eX9_count_50, if_neg e0, if_neg e1, if_neg e2, if_neg e3, if_pos e4, p4])
  by_cases e5 : a1 = 5
  · by_cases hg : f 37 4 < 0
    · have p6 : am_run 186 157 [.ref 50, .null, .int 0, .int 0, .null] [] f = _ := m_cntN h hg 36 0 (by omega)
      exact OP.same h (r := 0) (by rw [eX8_count_1, if_neg e0, if_neg e1, if_neg e2, if_neg e3, if_neg e4, if_pos e5, eX6_countOldWords_37, c_isGiven, am_cal_some, decide_eq_true hg, Bool.not_true, bi_f, if_pos rfl, am_cal_some]) (by rw [eX9_count_50, if_neg e0, if_neg e1, if_neg e2, if_neg e3, if_neg e4, if_pos e5, p6])
    · have p6 : am_run 186 157 [.ref 50, .null, .int 0, .int 0, .null] [] f = _ := m_cntO h hg 36 0 (by omega)
      exact OP.same h (r := nI (cx (olB f) 36)) (by rw [eX8_count_1, if_neg e0, if_neg e1, if_neg e2, if_neg e3, if_neg e4, if_pos e5, eX6_countOldWords_37, c_isGiven, am_cal_some, decide_eq_false hg, Bool.not_false, bi_t, if_neg one_ne, p5, am_cal_some]) (by rw [eX9_count_50, if_neg e0, if_neg e1, if_neg e2, if_neg e3, if_neg e4, if_pos e5, p6])
  by_cases e6 : a1 = 6
  · exact OP.same h (r := f 37 3) (by rw [eX8_count_1, if_neg e0, if_neg e1, if_neg e2, if_neg e3, if_neg e4, if_neg e5, if_pos e6]) (by rw [eX9_count_50, if_neg e0, if_neg e1, if_neg e2, if_neg e3, if_neg e4, if_neg e5, if_pos e6, ald_0 _ _ _ (by decide) (by decide), h.te])
  by_cases e7 : a1 = 7
  · exact OP.same h (r := nI kc) (by rw [eX8_count_1, if_neg e0, if_neg e1, if_neg e2, if_neg e3, if_neg e4, if_neg e5, if_neg e6, if_pos e7, h.K.1.1]) (by rw [eX9_count_50, if_neg e0, if_neg e1, if_neg e2, if_neg e3, if_neg e4, if_neg e5, if_neg e6, if_pos e7, h.K.1.2.2])
  by_cases e8 : a1 = 8
  · exact OP.same h (r := f 37 4) (by rw [eX8_count_1, if_neg e0, if_neg e1, if_neg e2, if_neg e3, if_neg e4, if_neg e5, if_neg e6, if_neg e7, if_pos e8]) (by rw [eX9_count_50, if_neg e0, if_neg e1, if_neg e2, if_neg e3, if_neg e4, if_neg e5, if_neg e6, if_neg e7, if_pos e8, ald_0 _ _ _ (by decide) (by decide), h.tl])
  exact OP.same h (r := -1) (by rw [eX8_count_1, if_neg e0, if_neg e1, if_neg e2, if_neg e3, if_neg e4, if_neg e5, if_neg e6, if_neg e7, if_neg e8]) (by rw [eX9_count_50, if_neg e0, if_neg e1, if_neg e2, if_neg e3, if_neg e4, if_neg e5, if_neg e6, if_neg e7, if_neg e8])
end Ops3

