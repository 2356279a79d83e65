theorem enc_some (z : Int32) (k : Nat) : enc z (some k) = nI k := rfl
theorem enc_none (z : Int32) : enc z none = z := rfl
theorem WK_no {lk : Nat → Nat} {n S v : Nat} (h9 : n ≤ 9) (hS : S < 512) (hv : v < n) (h : S.testBit v = false) : WK lk n S v = none := by
  rw [WK_eq h9 hS hv, h]
  have : ¬ S = 2 ^ v := by
    intro z
    rw [z, Nat.testBit_two_pow] at h
    simp at h
  rw [if_neg this]
  rfl
theorem WK_lt {lk : Nat → Nat} {n S v : Nat} (h9 : n ≤ 9) (hlk : ∀ i, lk i ≤ 500) (hS : S < 512) (hv : v < n) : ∀ x, WK lk n S v = some x → x < 4001 := by
  intro x hx
  have h1 := WK_le h9 hlk S hS v hv x hx
  have h2 := cnt_le S n
  omega
/-- what may come behind v in what is left -/
def wG (lk : Nat → Nat) (n R v u : Nat) : Option Nat := if R.testBit u && decide (0 < lk (9 * v + u)) then (WK lk n R u).map (lk (9 * v + u) + ·) else none
theorem wG_lt {lk : Nat → Nat} {n R v u : Nat} (h9 : n ≤ 9) (hlk : ∀ i, lk i ≤ 500) (hR : R < 512) (hu : u < n) : ∀ x, wG lk n R v u = some x → x < 4501 := by
  intro x hx
  unfold wG at hx
  split at hx
  · cases hw : WK lk n R u with
    | none => rw [hw] at hx; cases hx
    | some z =>
      rw [hw] at hx
      have h1 := WK_lt h9 hlk hR hu z hw
      have h2 : lk (9 * v + u) + z = x := Option.some.inj hx
      have h3 := hlk (9 * v + u)
      omega
  · cases hx
theorem wG_min_lt {lk : Nat → Nat} {n R v i : Nat} (h9 : n ≤ 9) (hlk : ∀ i, lk i ≤ 500) (hR : R < 512) (hi : i ≤ n) : ∀ x, minO (wG lk n R v) i = some x → x < 4501 := minO_lt (fun k hk => wG_lt h9 hlk hR (by omega))
def TOK (lk : Nat → Nat) (n : Nat) (T : Nat → Int32) (k : Nat) : Prop := ∀ S v, 1 ≤ S → S < k → v < n → T (9 * S + v) = enc (-4) (WK lk n S v)
section WalkM
variable {f : Hp} {n : Nat} {lk ln : Nat → Nat}
theorem m_lay55 (hn : f 50 0 = nI n) (h9 : n ≤ 9) (hlk : ∀ i, f 55 i = nI (lk i)) (hlb : ∀ i, lk i ≤ 500) {S v R : Nat} {T : Nat → Int32} (hS : S < 512) (hv : v < n) (hR : R < 512) (hT : ∀ u, u < n → T (9 * R + u) = enc (-4) (WK lk n R u)) : ∀ d i, i + d = n → am_run 129 55 [.ref 50, .int (nI S), .int (nI v), .int (enc (-4) (minO (wG lk n R v) i)), .int (nI R), .int (nI i), .null] [] (setC f 65 T) = am_run 129 12 [.ref 50, .int (nI S), .int (nI (v + 1)), .null, .null, .null, .null] [] (setC f 65 (upd T (9 * S + v) (enc (-4) (minO (wG lk n R v) n)))) := by
  intro d
  induction d with
  | zero =>
    intro i hi
    have hi : i = n := by omega
    subst hi
    rw [eX9_layFrom_55_50, setC_ne (by decide), hn, if_neg (nI_nlt (Nat.le_refl _) (by omega)), idx9', am_ast_in _ _ _ _ (by omega) (by decide), up_setC, nI_1]
  | succ d ih =>
    intro i hi
    rw [eX9_layFrom_55_50, setC_ne (by decide), hn, if_pos (nI_lt (by omega) (by omega)), m_has (by omega) (by omega), am_cal_some, idx9', idx9', nI_1, ← ih (i + 1) (by omega), minO]
    have hal : ∀ k : Int32 → Option Rs, am_ald (setC f 65 T) 55 81 (nI (9 * v + i)) k = k (nI (lk (9 * v + i))) := by
      intro k
      rw [am_ald_in _ _ _ (by omega) (by decide), setC_ne (by decide), hlk]
    have hal2 : ∀ k : Int32 → Option Rs, am_ald (setC f 65 T) 65 4608 (nI (9 * R + i)) k = k (enc (-4) (WK lk n R i)) := by
      intro k
      rw [am_ald_in _ _ _ (by omega) (by decide), setC_eq, hT i (by omega)]
    simp only [hal, hal2, bi_eq0]
    have hb := wG_min_lt (v := v) (i := i) h9 hlb hR (by omega)
    generalize ho : minO (wG lk n R v) i = o at hb ⊢
    unfold wG
    cases hbit : R.testBit i
    · simp [omin_none]
    · have hl := hlb (9 * v + i)
      by_cases h0 : 0 < lk (9 * v + i)
      · have h0' : (0 : Int32) < nI (lk (9 * v + i)) := by
          rw [← nI_0]
          exact nI_lt h0 (by omega)
        cases hw : WK lk n R i with
        | none => simp [h0, h0', enc, omin_none]
        | some z =>
          have hz := WK_lt h9 hlb hR (show i < n by omega) z hw
          have hz4 : ¬ nI z = -4 := enc4_ne (by omega)
          have hmm := m_min (o := o) (x := lk (9 * v + i) + z) (fun y hy => by have := hb y hy; omega) (by omega)
          simp only [h0, h0', enc_some, Bool.true_and, decide_true, if_true, if_false, hz4, nI_add, Option.map_some, Bool.true_eq_false]
          rw [← hmm]
          by_cases q1 : enc (-4) o = -4
          · simp [q1]
          · by_cases q2 : nI (lk (9 * v + i) + z) < enc (-4) o
            · simp [q1, q2]
            · simp [q1, q2]
      · have h0' : ¬ (0 : Int32) < nI (lk (9 * v + i)) := by
          have : lk (9 * v + i) = 0 := by omega
          rw [this]
          decide
        simp [h0, h0', omin_none]
theorem m_lay12 (hn : f 50 0 = nI n) (h9 : n ≤ 9) (hlk : ∀ i, f 55 i = nI (lk i)) (hlb : ∀ i, lk i ≤ 500) {S : Nat} (hS1 : 1 ≤ S) (hS : S < 2 ^ n) : ∀ d i T, i + d = n → TOK lk n T S → (∀ v, v < i → T (9 * S + v) = enc (-4) (WK lk n S v)) → ∃ T', am_run 129 12 [.ref 50, .int (nI S), .int (nI i), .null, .null, .null, .null] [] (setC f 65 T) = am_run 129 2 [.ref 50, .int (nI (S + 1)), .null, .null, .null, .null, .null] [] (setC f 65 T') ∧ TOK lk n T' (S + 1) := by
  have h5 := pow9 h9
  intro d
  induction d with
  | zero =>
    intro i T hi hT hv
    have hi : i = n := by omega
    subst hi
    refine ⟨T, ?_, ?_⟩
    · rw [eX9_layFrom_12_50, setC_ne (by decide), hn, if_neg (nI_nlt (Nat.le_refl _) (by omega)), nI_1]
    · intro S' v h1 h2 h3
      rcases Nat.lt_succ_iff_lt_or_eq.mp h2 with h | h
      · exact hT S' v h1 h h3
      · rw [h]
        exact hv v h3
  | succ d ih =>
    intro i T hi hT hv
    have step : ∀ x, x = enc (-4) (WK lk n S i) → TOK lk n (upd T (9 * S + i) x) S ∧ ∀ v, v < i + 1 → (upd T (9 * S + i) x) (9 * S + v) = enc (-4) (WK lk n S v) := by
      intro x hx
      refine ⟨fun S' v h1 h2 h3 => ?_, fun v h1 => ?_⟩
      · rw [upd_ne (by omega)]
        exact hT S' v h1 h2 h3
      · by_cases hvi : v = i
        · subst hvi
          rw [upd_same, hx]
        · rw [upd_ne (by omega)]
          exact hv v (by omega)
    rw [eX9_layFrom_12_50, setC_ne (by decide), hn, if_pos (nI_lt (by omega) (by omega)), shl_one (by omega), m_has (by omega) (by omega), am_cal_some, idx9']
    have h2i : 2 ^ i < 2 ^ 31 := Nat.pow_lt_pow_right (by decide) (by omega)
    by_cases h1 : S = 2 ^ i
    · rw [if_pos (by rw [h1]), am_ast_in _ _ _ _ (by omega) (by decide), up_setC, nI_1]
      obtain ⟨s1, s2⟩ := step 0 (by rw [WK_eq h9 (by omega) (by omega), if_pos h1]; rfl)
      exact ih (i + 1) _ (by omega) s1 s2
    · rw [if_neg (fun z => h1 ((nI_eq (by omega) h2i).mp z))]
      simp only [bi_eq0]
      cases hb : S.testBit i
      · rw [if_pos rfl, am_ast_in _ _ _ _ (by omega) (by decide), up_setC, nI_1]
        obtain ⟨s1, s2⟩ := step (-4) (by rw [WK_no h9 (by omega) (by omega) hb]; rfl)
        exact ih (i + 1) _ (by omega) s1 s2
      · rw [if_neg (by simp)]
        have hdr := drop_lt (show S < 512 by omega) (show i < 9 by omega) hb
        have hdi := dropI (show S < 512 by omega) (show i < 9 by omega) hb
        rw [shl_one (by omega)] at hdi
        rw [hdi]
        have hR1 : 1 ≤ S ^^^ 2 ^ i := by
          rcases Nat.eq_zero_or_pos (S ^^^ 2 ^ i) with h | h
          · have := drop_add (show S < 512 by omega) (show i < 9 by omega) hb
            omega
          · exact h
        have hl := m_lay55 hn h9 hlk hlb (S := S) (v := i) (R := S ^^^ 2 ^ i) (T := T) (by omega) (by omega) (by omega) (fun u hu => hT _ u hR1 hdr hu) n 0 (by omega)
        rw [nI_0] at hl
        have e0 : enc (-4) (minO (wG lk n (S ^^^ 2 ^ i) i) 0) = -4 := rfl
        rw [e0] at hl
        rw [hl]
        obtain ⟨s1, s2⟩ := step (enc (-4) (minO (wG lk n (S ^^^ 2 ^ i) i) n)) (by rw [WK_eq h9 (by omega) (by omega), if_neg h1, hb, if_pos rfl]; rfl)
        exact ih (i + 1) _ (by omega) s1 s2
theorem m_layFrom (hn : f 50 0 = nI n) (h9 : n ≤ 9) (hlk : ∀ i, f 55 i = nI (lk i)) (hlb : ∀ i, lk i ≤ 500) : ∃ T, am_call 129 [.ref 50] f = some (0, setC f 65 T) ∧ TOK lk n T (2 ^ n) := by
  have h5 := pow9 h9
  have key : ∀ d S T, S + d = 2 ^ n → 1 ≤ S → TOK lk n T S → ∃ T', am_run 129 2 [.ref 50, .int (nI S), .null, .null, .null, .null, .null] [] (setC f 65 T) = some (0, setC f 65 T') ∧ TOK lk n T' (2 ^ n) := by
    intro d
    induction d with
    | zero =>
      intro S T hS h1 hT
      have hS : S = 2 ^ n := by omega
      subst hS
      refine ⟨T, ?_, hT⟩
      rw [eX9_layFrom_2_50, eX9_all_50, setC_ne (by decide), hn, all_eq h9, am_cal_some, if_pos (nI_lt (by omega) (by omega))]
    | succ d ih =>
      intro S T hS h1 hT
      rw [eX9_layFrom_2_50, eX9_all_50, setC_ne (by decide), hn, all_eq h9, am_cal_some, if_neg (nI_nlt (by omega) (by omega))]
      obtain ⟨T', e1, e2⟩ := m_lay12 hn h9 hlk hlb h1 (by omega) n 0 T (by omega) hT (fun v hv => by omega)
      rw [nI_0] at e1
      rw [e1]
      exact ih (S + 1) T' (by omega) (by omega) e2
  obtain ⟨T', e1, e2⟩ := key (2 ^ n - 1) 1 (f 65) (by have := Nat.two_pow_pos n; omega) (Nat.le_refl 1) (fun S v h1 h2 h3 => by omega)
  rw [setC_self] at e1
  exact ⟨T', by rw [eX9_layFrom_50]; exact e1, e2⟩
/-- the least walk of a shape -/
def WS (lk ln : Nat → Nat) (n S : Nat) : Option Nat := (minO (fun v => if S.testBit v then WK lk n S v else none) n).map (· + nsum ln S n)
def wM (lk : Nat → Nat) (n S v : Nat) : Option Nat := if S.testBit v then WK lk n S v else none
theorem wM_eq {S v : Nat} (h9 : n ≤ 9) (hS : S < 512) (hv : v < n) : wM lk n S v = WK lk n S v := by
  unfold wM
  cases h : S.testBit v
  · rw [WK_no h9 hS hv h]
    rfl
  · rfl
theorem WS_eq (S : Nat) : WS lk ln n S = (minO (wM lk n S) n).map (· + nsum ln S n) := rfl
theorem m_walkOf (hn : f 50 0 = nI n) (h9 : n ≤ 9) (hlb : ∀ i, lk i ≤ 500) (hln : ∀ i, f 53 i = nI (ln i)) (hnb : ∀ i, ln i ≤ 500) (hT : TOK lk n (f 65) (2 ^ n)) {S : Nat} (h1 : 1 ≤ S) (hS : S < 2 ^ n) : am_call 130 [.ref 50, .int (nI S)] f = some (enc (-4) (WS lk ln n S), f) := by
  have h5 := pow9 h9
  rw [eX9_walkOf_50]
  have hmb : ∀ i, i ≤ n → ∀ x, minO (wM lk n S) i = some x → x < 4001 := fun i hi => minO_lt (fun k hk => by
    rw [wM_eq h9 (by omega) (by omega)]
    exact WK_lt h9 hlb (by omega) (by omega))
  have key : ∀ d i, i + d = n → am_run 130 8 [.ref 50, .int (nI S), .int (enc (-4) (minO (wM lk n S) i)), .int (nI (nsum ln S i)), .int (nI i), .null] [] f = some (enc (-4) (WS lk ln n S), f) := by
    intro d
    induction d with
    | zero =>
      intro i hi
      have hi : i = n := by omega
      subst hi
      rw [eX9_walkOf_8_50, hn, if_neg (nI_nlt (Nat.le_refl _) (by omega)), WS_eq]
      cases ho : minO (wM lk i S) i with
      | none => rfl
      | some x =>
        have := hmb i (Nat.le_refl i) x ho
        show (if nI x = -4 then _ else some (nI x + nI (nsum ln S i), f)) = some (nI (x + nsum ln S i), f)
        rw [if_neg (enc4_ne (by omega)), nI_add]
    | succ d ih =>
      intro i hi
      have hb := hmb i (by omega)
      have e65 : f 65 (9 * S + i) = enc (-4) (WK lk n S i) := hT S i h1 hS (by omega)
      rw [eX9_walkOf_8_50, hn, if_pos (nI_lt (by omega) (by omega)), m_has (by omega) (by omega), am_cal_some, am_ald_in _ _ _ (show i < 9 by omega) (by decide)]
      simp only [eX9_walkOf_38_50_s2, idx9']
      rw [am_ald_in _ _ _ (by omega) (by decide), am_ald_in _ _ _ (by omega) (by decide), m_has (by omega) (by omega), am_cal_some, am_cal_some, nI_1, e65, hln, ← ih (i + 1) (by omega), minO, nsum]
      simp only [bi_eq0, nI_add]
      unfold wM
      generalize ho : minO (wM lk n S) i = o at hb
      unfold wM at ho
      rw [ho]
      cases hbit : S.testBit i
      · simp [omin_none]
      · cases hw : WK lk n S i with
        | none => simp [enc, omin_none]
        | some z =>
          have hz := WK_lt h9 hlb (show S < 512 by omega) (show i < n by omega) z hw
          have hz4 : ¬ nI z = -4 := enc4_ne (by omega)
          have hmm := m_min (o := o) (x := z) (fun y hy => by have := hb y hy; omega) (by omega)
          simp only [if_true, if_false, Bool.true_eq_false]
          rw [← hmm]
          have ez : enc (-4) (some z) = nI z := rfl
          rw [ez, if_neg hz4]
          by_cases q1 : enc (-4) o = -4
          · simp [q1]
          · by_cases q2 : nI z < enc (-4) o
            · simp [q1, q2]
            · simp [q1, q2]
  exact key n 0 (by omega)
end WalkM
