-- first index at which something holds, up to n: none
def allB (p : Nat → Bool) : Nat → Bool
  | 0 => true
  | n + 1 => allB p n && p n
theorem allB_congr {p q : Nat → Bool} : ∀ {n : Nat}, (∀ k, k < n → p k = q k) → allB p n = allB q n
  | 0, _ => rfl
  | n + 1, h => by
    rw [allB, allB, h n (by omega), allB_congr (fun k hk => h k (by omega))]
theorem allB_iff {p : Nat → Bool} : ∀ {n : Nat}, allB p n = true ↔ ∀ k, k < n → p k = true
  | 0 => by simp [allB]
  | n + 1 => by
    rw [allB, Bool.and_eq_true, allB_iff (n := n)]
    constructor
    · rintro ⟨h1, h2⟩ k hk
      rcases Nat.lt_succ_iff_lt_or_eq.mp hk with h | h
      · exact h1 k h
      · rw [h]; exact h2
    · intro h
      exact ⟨fun k hk => h k (by omega), h n (by omega)⟩
/-- all from i on, d of them -/
def allF (p : Nat → Bool) : Nat → Nat → Bool
  | _, 0 => true
  | i, d + 1 => p i && allF p (i + 1) d
theorem allF_allB (p : Nat → Bool) : ∀ (d i : Nat), (allB p i && allF p i d) = allB p (i + d)
  | 0, i => by simp [allF]
  | d + 1, i => by
    rw [allF, ← Bool.and_assoc]
    have := allF_allB p d (i + 1)
    rw [allB] at this
    rw [this]
    congr 1
    omega
theorem allF_0 (p : Nat → Bool) (n : Nat) : allF p 0 n = allB p n := by
  have := allF_allB p n 0
  simpa [allB] using this
theorem c_pairOf {f : Hp} {k : Nat} (h : k < 40) : am_call 9 [.ref 16, .int (nI k)] f = some ((1 <<< (f 18 k &&& 31)) ||| (1 <<< (f 19 k &&& 31)), f) := by
  rw [eX0_pairOf_16, am_ald_in _ _ _ h (by decide), am_ald_in _ _ _ h (by decide)]
/-- a line of n bars the two letters a, b -/
def barV (a b l x y : Int32) : Bool := decide (l = 110) && ((decide (a = x) && decide (b = y)) || (decide (a = y) && decide (b = x)))
def barN (a b : Int32) (l x y : Nat → Int32) (k : Nat) : Bool := barV a b (l k) (x k) (y k)
theorem pair_bitsF : ∀ a b x y : Fin 6, decide ((((1 : Int32) <<< (nI x &&& 31)) ||| (1 <<< (nI y &&& 31)) = (1 <<< (nI a &&& 31)) ||| (1 <<< (nI b &&& 31)))) = decide ((a = x ∧ b = y) ∨ (a = y ∧ b = x)) := by decide +kernel
theorem pair_bits (a : Nat) (ha : a < 6) (b : Nat) (hb : b < 6) (x : Nat) (hx : x < 6) (y : Nat) (hy : y < 6) : ((((1 : Int32) <<< (nI x &&& 31)) ||| (1 <<< (nI y &&& 31)) = (1 <<< (nI a &&& 31)) ||| (1 <<< (nI b &&& 31))) ↔ ((a = x ∧ b = y) ∨ (a = y ∧ b = x))) := by
  have h := decide_eq_decide.mp (pair_bitsF ⟨a, ha⟩ ⟨b, hb⟩ ⟨x, hx⟩ ⟨y, hy⟩)
  simpa only [Fin.mk.injEq] using h
theorem c_allowsWord {f : Hp} {c w : Nat} (hc : f 16 3 = nI c) (h40 : c ≤ 40) (hw : w < 36) (hn : ∀ k, k < c → f 17 k = 110 → ∃ x y, x < 6 ∧ y < 6 ∧ f 18 k = nI x ∧ f 19 k = nI y) : am_call 10 [.ref 16, .int (nI w)] f = some (bi (allB (fun k => !barN (nI (w / 6)) (nI (w % 6)) (f 17) (f 18) (f 19) k) c), f) := by
  have e1 : nI w / 6 = nI (w / 6) := pk_div (by omega) (by decide) (by decide)
  have e2 : nI w - nI (w / 6) * 6 = nI (w % 6) := by rw [← e1]; exact pk_rem (by omega) (by decide) (by decide)
  rw [eX0_allowsWord_16, am_dv6, am_dv6, e1, e2, ← allF_0]
  have key : ∀ d i, i + d = c → am_run 10 16 [.ref 16, .null, .int ((1 <<< (nI (w / 6) &&& 31)) ||| (1 <<< (nI (w % 6) &&& 31))), .int (nI i)] [] f = some (bi (allF (fun k => !barN (nI (w / 6)) (nI (w % 6)) (f 17) (f 18) (f 19) k) i d), f) := by
    intro d
    induction d with
    | zero =>
      intro i hi
      have hi : i = c := by omega
      subst hi
      rw [eX0_allowsWord_16_16, hc, if_neg (nI_nlt (Nat.le_refl _) (by omega)), am_z1]
      rfl
    | succ d ih =>
      intro i hi
      rw [eX0_allowsWord_16_16, hc, if_pos (nI_lt (by omega) (by omega)), am_ald_in _ _ _ (by omega) (by decide), nI_1, allF]
      by_cases h1 : f 17 i = 110
      · rw [if_pos h1, c_pairOf (by omega), am_cal_some]
        obtain ⟨x, y, hx, hy, ex, ey⟩ := hn i (by omega) h1
        rw [ex, ey]
        have hp := pair_bits (w / 6) (by omega) (w % 6) (by omega) x hx y hy
        have q1 : (nI (w / 6) = nI x) = (w / 6 = x) := propext (nI_eq (by omega) (by omega))
        have q2 : (nI (w % 6) = nI y) = (w % 6 = y) := propext (nI_eq (by omega) (by omega))
        have q3 : (nI (w / 6) = nI y) = (w / 6 = y) := propext (nI_eq (by omega) (by omega))
        have q4 : (nI (w % 6) = nI x) = (w % 6 = x) := propext (nI_eq (by omega) (by omega))
        have hbar : barN (nI (w / 6)) (nI (w % 6)) (f 17) (f 18) (f 19) i = decide ((w / 6 = x ∧ w % 6 = y) ∨ (w / 6 = y ∧ w % 6 = x)) := by
          unfold barN barV
          rw [ex, ey]
          simp only [q1, q2, q3, q4, h1, decide_true, Bool.true_and, Bool.decide_or, Bool.decide_and]
        rw [hbar]
        by_cases h2 : (w / 6 = x ∧ w % 6 = y) ∨ (w / 6 = y ∧ w % 6 = x)
        · rw [if_pos (hp.mpr h2), am_z0, decide_eq_true h2]
          rfl
        · rw [if_neg (fun z => h2 (hp.mp z)), decide_eq_false h2, ih (i + 1) (by omega)]
          simp
      · rw [if_neg h1, ih (i + 1) (by omega)]
        simp [barN, barV, h1]
  have := key c 0 (by omega)
  exact this
theorem m_mayStand {f : Hp} {c w : Nat} (hc : f 57 1 = nI c) (h40 : c ≤ 40) (hw : w < 36) : am_call 158 [.ref 50, .int (nI w)] f = some (bi (allB (fun k => !barN (nI (w / 6)) (nI (w % 6)) (fun k => f 58 (150 + 3 * k)) (fun k => f 58 (151 + 3 * k)) (fun k => f 58 (152 + 3 * k)) k) c), f) := by
  have e1 : nI w / 6 = nI (w / 6) := pk_div (by omega) (by decide) (by decide)
  have e2 : nI w - nI (w / 6) * 6 = nI (w % 6) := by rw [← e1]; exact pk_rem (by omega) (by decide) (by decide)
  rw [eX9_mayStand_50, am_dv6, am_dv6, e1, e2]
  have key : ∀ d i, i + d = c → am_run 158 16 [.ref 50, .null, .int (nI (w / 6)), .int (nI (w % 6)), .int (bi (allB (fun k => !barN (nI (w / 6)) (nI (w % 6)) (fun k => f 58 (150 + 3 * k)) (fun k => f 58 (151 + 3 * k)) (fun k => f 58 (152 + 3 * k)) k) i)), .int (nI i), .null, .null, .null] [] f = some (bi (allB (fun k => !barN (nI (w / 6)) (nI (w % 6)) (fun k => f 58 (150 + 3 * k)) (fun k => f 58 (151 + 3 * k)) (fun k => f 58 (152 + 3 * k)) k) c), f) := by
    intro d
    induction d with
    | zero =>
      intro i hi
      have hi : i = c := by omega
      subst hi
      rw [eX9_mayStand_16_50, ald_1 _ _ _ (by decide) (by decide), hc, if_neg (nI_nlt (Nat.le_refl _) (by omega)), am_z_bi]
    | succ d ih =>
      intro i hi
      have hih := ih (i + 1) (by omega)
      rw [allB] at hih
      generalize allB (fun k => !barN (nI (w / 6)) (nI (w % 6)) (fun k => f 58 (150 + 3 * k)) (fun k => f 58 (151 + 3 * k)) (fun k => f 58 (152 + 3 * k)) k) i = z at hih ⊢
      rw [eX9_mayStand_16_50, ald_1 _ _ _ (by decide) (by decide), hc, if_pos (nI_lt (by omega) (by omega)), nI_0l, am_ald_in _ _ _ (by omega) (by decide)]
      simp only [eX9_mayStand_50_50_s1, nI_1l, nI_2l]
      rw [am_ald_in _ _ _ (by omega) (by decide), am_ald_in _ _ _ (by omega) (by decide), am_ald_in _ _ _ (by omega) (by decide), am_ald_in _ _ _ (by omega) (by decide), nI_1]
      rw [← hih]
      have hbv : barN (nI (w / 6)) (nI (w % 6)) (fun k => f 58 (150 + 3 * k)) (fun k => f 58 (151 + 3 * k)) (fun k => f 58 (152 + 3 * k)) i = barV (nI (w / 6)) (nI (w % 6)) (f 58 (150 + 3 * i)) (f 58 (151 + 3 * i)) (f 58 (152 + 3 * i)) := rfl
      rw [hbv]
      generalize f 58 (150 + 3 * i) = l
      generalize f 58 (151 + 3 * i) = x
      generalize f 58 (152 + 3 * i) = y
      generalize nI (w / 6) = a
      generalize nI (w % 6) = b
      unfold barV
      cases z
      · simp [bi]
      · by_cases h1 : l = 110 <;> by_cases h2 : a = x <;> by_cases h3 : b = y <;> by_cases h4 : a = y <;> by_cases h5 : b = x <;> simp_all [bi]
  exact key c 0 (by omega)
/-- a line keeps to a shape -/
def okV (l : Int32) (x y : Bool) : Bool := if l = 115 then !(x && y) else if l = 117 then x == y else true
def okS (S : Int32) (l x y : Nat → Int32) (k : Nat) : Bool := okV (l k) (hb S (x k)) (hb S (y k))
theorem bi_inj (a b : Bool) : (bi a = bi b) = (a = b) := by cases a <;> cases b <;> simp [bi]
theorem c_allowsShape {f : Hp} {c : Nat} (hc : f 16 3 = nI c) (h40 : c ≤ 40) (S : Int32) : am_call 11 [.ref 16, .int S] f = some (bi (allB (okS S (f 17) (f 18) (f 19)) c), f) := by
  rw [eX0_allowsShape_16, ← allF_0]
  have key : ∀ d i, i + d = c → am_run 11 2 [.ref 16, .int S, .int (nI i), .null, .null] [] f = some (bi (allF (okS S (f 17) (f 18) (f 19)) i d), f) := by
    intro d
    induction d with
    | zero =>
      intro i hi
      have hi : i = c := by omega
      subst hi
      rw [eX0_allowsShape_2_16, hc, if_neg (nI_nlt (Nat.le_refl _) (by omega)), am_z1]
      rfl
    | succ d ih =>
      intro i hi
      have hal : ∀ (q : Nat) (k : Int32 → Option Rs), am_ald f q 40 (nI i) k = k (f q i) := fun q k => am_ald_in f q k (by omega) (by decide)
      rw [eX0_allowsShape_2_16, hc, if_pos (nI_lt (by omega) (by omega))]
      simp only [hal, c_hasG, am_cal_some, nI_1, ih (i + 1) (by omega), allF, am_z0]
      have hok : okS S (f 17) (f 18) (f 19) i = okV (f 17 i) (hb S (f 18 i)) (hb S (f 19 i)) := rfl
      rw [hok]
      generalize allF (okS S (f 17) (f 18) (f 19)) (i + 1) d = z
      generalize f 17 i = l
      generalize hb S (f 18 i) = x
      generalize hb S (f 19 i) = y
      unfold okV
      by_cases h1 : l = 115
      · subst h1
        cases x <;> cases y <;> simp [bi]
      · by_cases h2 : l = 117
        · subst h2
          cases x <;> cases y <;> simp [bi]
        · simp [h1, h2]
  exact key c 0 (by omega)
theorem m_okLoop {f : Hp} {c : Nat} (hc : f 57 1 = nI c) (h40 : c ≤ 40) (S : Int32) (b0 : Bool) : am_run 147 45 [.ref 50, .int S, .null, .int (bi b0), .int 0, .null, .null, .null] [] f = some (bi (b0 && allB (okS S (fun k => f 58 (150 + 3 * k)) (fun k => f 58 (151 + 3 * k)) (fun k => f 58 (152 + 3 * k))) c), f) := by
  have key : ∀ d i b, i + d = c → am_run 147 45 [.ref 50, .int S, .null, .int (bi b), .int (nI i), .null, .null, .null] [] f = some (bi (b && allF (okS S (fun k => f 58 (150 + 3 * k)) (fun k => f 58 (151 + 3 * k)) (fun k => f 58 (152 + 3 * k))) i d), f) := by
    intro d
    induction d with
    | zero =>
      intro i b hi
      have hi : i = c := by omega
      subst hi
      rw [eX9_isRight_45_50, ald_1 _ _ _ (by decide) (by decide), hc, if_neg (nI_nlt (Nat.le_refl _) (by omega)), am_z_bi]
      simp [allF]
    | succ d ih =>
      intro i b hi
      have hal : ∀ (j : Nat) (k : Int32 → Option Rs), j < 300 → am_ald f 58 300 (nI j) k = k (f 58 j) := fun j k h => am_ald_in f 58 k h (by decide)
      rw [eX9_isRight_45_50, ald_1 _ _ _ (by decide) (by decide), hc, if_pos (nI_lt (by omega) (by omega))]
      have iht := ih (i + 1) true (by omega)
      have ihf := ih (i + 1) false (by omega)
      simp only [bi_t] at iht
      simp only [bi_f] at ihf
      simp only [nI_0l, nI_1l, nI_2l, hal (150 + 3 * i) _ (by omega), hal (151 + 3 * i) _ (by omega), hal (152 + 3 * i) _ (by omega), m_hasG, am_cal_some, nI_1, iht, ihf, allF, am_z_bi]
      have hok : okS S (fun k => f 58 (150 + 3 * k)) (fun k => f 58 (151 + 3 * k)) (fun k => f 58 (152 + 3 * k)) i = okV (f 58 (150 + 3 * i)) (hb S (f 58 (151 + 3 * i))) (hb S (f 58 (152 + 3 * i))) := rfl
      rw [hok]
      generalize allF (okS S (fun k => f 58 (150 + 3 * k)) (fun k => f 58 (151 + 3 * k)) (fun k => f 58 (152 + 3 * k))) (i + 1) d = z
      generalize f 58 (150 + 3 * i) = l
      generalize hb S (f 58 (151 + 3 * i)) = x
      generalize hb S (f 58 (152 + 3 * i)) = y
      unfold okV
      cases b
      · simp [bi]
      · by_cases h1 : l = 115
        · subst h1
          cases x <;> cases y <;> simp [bi]
        · by_cases h2 : l = 117
          · subst h2
            cases x <;> cases y <;> simp [bi]
          · simp [h1, h2, bi]
  have := key c 0 b0 (by omega)
  rw [allF_0] at this
  exact this
