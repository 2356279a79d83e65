section ShapeM2
variable {f : Hp} {n c : Nat} {lk ln : Nat → Nat}
theorem m_shRight {f0 : Hp} {day : Int32} (h0 : MS n lk ln c f0) (hT : TOK lk n (f0 65) (2 ^ n)) : ∀ d S g, S + d = 2 ^ n → 1 ≤ S → (∀ q, q ≠ 66 → g q = f0 q) → (∀ p, 1 ≤ p → p < S → g 66 p = bi (Rd (f0 51) (f0 52) (fun k => f0 58 (150 + 3 * k)) (fun k => f0 58 (151 + 3 * k)) (fun k => f0 58 (152 + 3 * k)) n c lk ln day p)) → ∃ g', am_run 149 20 [.ref 50, .int day, .int (nI S), .null, .null, .null, .null, .null] [] g = am_run 149 48 [.ref 50, .null, .int 1, .null, .null, .null, .null, .null] [] g' ∧ (∀ q, q ≠ 66 → g' q = f0 q) ∧ (∀ p, 1 ≤ p → p < 2 ^ n → g' 66 p = bi (Rd (f0 51) (f0 52) (fun k => f0 58 (150 + 3 * k)) (fun k => f0 58 (151 + 3 * k)) (fun k => f0 58 (152 + 3 * k)) n c lk ln day p)) := by
  intro d
  induction d with
  | zero =>
    intro S g hS h1 hq hr
    have h5 := pow9 h0.2.1
    have : S = 2 ^ n := by omega
    subst this
    refine ⟨g, ?_, hq, hr⟩
    rw [eX9_layShapes_20_50, eX9_all_50, hq 50 (by decide), h0.1, all_eq h0.2.1, am_cal_some, if_pos (nI_lt (by omega) (by omega))]
  | succ d ih =>
    intro S g hS h1 hq hr
    have h5 := pow9 h0.2.1
    have hms : MS n lk ln c g := MS.keep h0 (by rw [hq 50 (by decide)]) (hq 55 (by decide)) (hq 53 (by decide)) (by rw [hq 57 (by decide)])
    have hri := m_isRight hms (by rw [hq 65 (by decide)]; exact hT) h1 (show S < 2 ^ n by omega) day
    rw [hq 51 (by decide), hq 52 (by decide), hq 58 (by decide)] at hri
    rw [eX9_layShapes_20_50, eX9_all_50, hms.1, all_eq h0.2.1, am_cal_some, if_neg (nI_nlt (by omega) (by omega)), hri, am_cal_some, bi_and1, am_ast_in _ _ _ _ (show S < 512 by omega) (by decide), nI_1]
    refine ih (S + 1) _ (by omega) (by omega) (fun q h => by rw [am_up_ne h, hq q h]) (fun p a b => ?_)
    by_cases hp : p = S
    · subst hp
      exact am_up_same _ _ _ _
    · rw [am_up_j hp]
      exact hr p a (by omega)
theorem shL_head {R : Nat → Bool} {Wt : Nat → Nat} {F S : Nat} {z : Nat × Nat} (hS : S ≠ 0) (hK : KB R Wt S = some z) : shL R Wt (F + 1) S ≠ [] := by
  rw [shL_ne hS hK]
  exact List.cons_ne_nil _ _
/-- the reference's shapes of a day -/
def MV (R : Nat → Bool) (Wt : Nat → Nat) (n : Nat) (g : Hp) : Prop := (∀ p, 1 ≤ p → p < 2 ^ n → g 66 p = bi (R p)) ∧ g 50 25 = nI (SH R Wt n).length ∧ (SH R Wt n ≠ [] → g 68 (2 ^ n - 1) = nI (SW R Wt n)) ∧ ∀ j, j < (SH R Wt n).length → g 70 j = nI ((SH R Wt n).getD j 0)
theorem m_shEnd {R : Nat → Bool} {Wt : Nat → Nat} {g : Hp} (hms : MS n lk ln c g) (hWb : ∀ S, S < 2 ^ n → R S = true → Wt S ≤ 1000 * cnt S n) (hmk : MK R Wt n (2 ^ n) g) : ∃ g', am_run 149 48 [.ref 50, .null, .int (nI (2 ^ n)), .null, .null, .null, .null, .null] [] g = some (bi (decide (SH R Wt n ≠ [])), g') ∧ (∀ q, q ≠ 50 → q ≠ 70 → g' q = g q) ∧ (∀ j, j ≠ 25 → g' 50 j = g 50 j) ∧ MV R Wt n g' := by
  have h9 := hms.2.1
  have h5 := pow9 h9
  have hp := Nat.two_pow_pos n
  rw [eX9_layShapes_48_50, eX9_all_50, hms.1, all_eq h9, am_cal_some, if_pos (nI_lt (by omega) (by omega))]
  have h1 : ∀ q, q ≠ 50 → am_up g 50 25 0 q = g q := fun q h => am_up_ne h
  have h2 : ∀ j, j ≠ 25 → am_up g 50 25 0 50 j = g 50 j := fun j h => am_up_j h
  rw [h2 0 (by decide), hms.1]
  by_cases hn0 : n = 0
  · subst hn0
    have eH : SH R Wt 0 = [] := rfl
    refine ⟨am_up g 50 25 0, ?_, fun q a _ => h1 q a, h2, fun p a b => absurd b (by omega), ?_, fun h => absurd eH h, fun j hj => by rw [eH] at hj; exact absurd hj (Nat.not_lt_zero _)⟩
    · rw [if_pos (by decide), eH]
      exact am_z0 _
    · rw [am_up_same, eH]; rfl
  · have hn2 : 2 ≤ 2 ^ n := by
      have : 2 ^ 1 ≤ 2 ^ n := Nat.pow_le_pow_right (by decide) (by omega)
      omega
    rw [if_neg (nI_nez hn0 (by omega)), eX9_all_50, h2 0 (by decide), hms.1, all_eq h9, am_cal_some, am_ald_in _ _ _ (show 2 ^ n - 1 < 512 by omega) (by decide), h1 67 (by decide), hmk.2.1 _ (by omega), eX9_all_50, h2 0 (by decide), hms.1, all_eq h9, am_cal_some]
    cases hK : KB R Wt (2 ^ n - 1) with
    | none =>
      have eH : SH R Wt n = [] := by unfold SH; rw [hK]
      rw [encF_none, if_pos rfl]
      refine ⟨am_up g 50 25 0, ?_, fun q a _ => h1 q a, h2, fun p a b => ?_, ?_, fun h => absurd eH h, fun j hj => by rw [eH] at hj; exact absurd hj (Nat.not_lt_zero _)⟩
      · rw [eH]
        exact am_z0 _
      · rw [h1 66 (by decide)]; exact hmk.1 p a b
      · rw [am_up_same, eH]; rfl
    | some z =>
      have hz := KB_lt h9 hWb (S := 2 ^ n - 1) (k := z.1) (p := z.2) (by omega) hK
      have eH : SH R Wt n = shL R Wt 9 (2 ^ n - 1) := by unfold SH; rw [hK]
      have eW : SW R Wt n = z.1 % 1000000 := by unfold SW; rw [hK]
      rw [encF_some, if_neg (show ¬ nI (z.1 / 1000000) = 100 from fun e => by have := (nI_eq (a := z.1 / 1000000) (b := 100) (by omega) (by omega)).mp e; omega)]
      obtain ⟨g', e1, e2, e3, e4, e5, e6⟩ := m_shEx (R := R) (Wt := Wt) (n := n) 9 (2 ^ n - 1) 0 (am_up g 50 25 0) (by decide) (by omega) h9 (fun T y a b d => by rw [h1 69 (by decide)]; exact hmk.2.2.2 T y a b d) ⟨z, hK, hz.2.2⟩ (by rw [am_up_same]; rfl)
      rw [e1]
      refine ⟨g', ?_, fun q a b => by rw [e2 q a b, h1 q a], fun j h => by rw [e3 j h, h2 j h], fun p a b => ?_, ?_, fun _ => ?_, fun j hj => ?_⟩
      · rw [eH, decide_eq_true (shL_head (by omega) hK)]; rfl
      · rw [e2 66 (by decide) (by decide), h1 66 (by decide)]; exact hmk.1 p a b
      · rw [e4, eH, Nat.zero_add]
      · rw [e2 68 (by decide) (by decide), h1 68 (by decide), hmk.2.2.1 _ (by omega), hK, eW]; rfl
      · rw [eH] at hj ⊢
        have := e6 j hj
        rwa [Nat.zero_add] at this
theorem m_layShapes (h : MS n lk ln c f) (day : Int32) : ∃ g, am_call 149 [.ref 50, .int day] f = some (bi (decide (SH (Rd (f 51) (f 52) (fun k => f 58 (150 + 3 * k)) (fun k => f 58 (151 + 3 * k)) (fun k => f 58 (152 + 3 * k)) n c lk ln day) (Wd lk ln n) n ≠ [])), g) ∧ (∀ q, q ∉ [50, 65, 66, 67, 68, 69, 70] → g q = f q) ∧ (∀ j, j ≠ 25 → g 50 j = f 50 j) ∧ TOK lk n (g 65) (2 ^ n) ∧ MV (Rd (f 51) (f 52) (fun k => f 58 (150 + 3 * k)) (fun k => f 58 (151 + 3 * k)) (fun k => f 58 (152 + 3 * k)) n c lk ln day) (Wd lk ln n) n g := by
  obtain ⟨T, t1, t2⟩ := m_layFrom h.1 h.2.1 h.2.2.1 h.2.2.2.1
  have hp := Nat.two_pow_pos n
  have hz : (0 : Int32) = nI 0 := rfl
  rw [eX9_layShapes_50, t1, am_cal_some]
  have e0 : ∀ (g : Hp) (a v : Int32) (q : Nat) (k : Hp → Option Rs), am_ast g q 512 0 v k = k (am_up g q 0 v) := fun g a v q k => am_ast_in _ _ _ _ (show 0 < 512 by decide) (by decide)
  rw [e0 _ 0, e0 _ 0]
  generalize hg0 : am_up (am_up (setC f 65 T) 67 0 0) 68 0 0 = g0
  have h0 : ∀ q, q ≠ 65 → q ≠ 67 → q ≠ 68 → g0 q = f q := fun q a b d => by
    rw [← hg0, am_up_ne d, am_up_ne b]
    exact setC_ne a
  have h65 : g0 65 = T := by rw [← hg0, am_up_ne (by decide), am_up_ne (by decide)]; exact setC_eq _ _ _
  have h67 : g0 67 0 = 0 := by rw [← hg0, am_up_ne (by decide), am_up_same]
  have h68 : g0 68 0 = 0 := by rw [← hg0, am_up_same]
  have hms : MS n lk ln c g0 := MS.keep h (by rw [h0 50 (by decide) (by decide) (by decide)]) (h0 55 (by decide) (by decide) (by decide)) (h0 53 (by decide) (by decide) (by decide)) (by rw [h0 57 (by decide) (by decide) (by decide)])
  obtain ⟨g1, e1, e2, e3⟩ := m_shRight (day := day) hms (by rw [h65]; exact t2) (2 ^ n - 1) 1 g0 (by omega) (by omega) (fun _ _ => rfl) (fun p a b => absurd b (by omega))
  have e1' : am_run 149 20 [.ref 50, .int day, .int 1, .null, .null, .null, .null, .null] [] g0 = _ := e1
  rw [e1']
  rw [h0 51 (by decide) (by decide) (by decide), h0 52 (by decide) (by decide) (by decide), h0 58 (by decide) (by decide) (by decide)] at e3
  generalize hR : Rd (f 51) (f 52) (fun k => f 58 (150 + 3 * k)) (fun k => f 58 (151 + 3 * k)) (fun k => f 58 (152 + 3 * k)) n c lk ln day = R at e3 ⊢
  have hms1 : MS n lk ln c g1 := MS.keep hms (by rw [e2 50 (by decide)]) (e2 55 (by decide)) (e2 53 (by decide)) (by rw [e2 57 (by decide)])
  have hRW : ∀ p, 1 ≤ p → p < 2 ^ n → R p = true → WS lk ln n p = some (Wd lk ln n p) := fun p _ _ hr => by rw [← hR] at hr; exact Rd_W hr
  have hWb : ∀ S, S < 2 ^ n → R S = true → Wd lk ln n S ≤ 1000 * cnt S n := by
    rw [← hR]
    exact Rd_b h.2.1 h.2.2.2.1 h.2.2.2.2.2.1
  obtain ⟨g2, k1, k2, k3⟩ := m_shOut hRW hWb (2 ^ n - 1) 1 g1 (by omega) (by omega) hms1 (by rw [e2 65 (by decide), h65]; exact t2) ⟨e3, fun T hT => by
      have : T = 0 := by omega
      subst this
      rw [e2 67 (by decide), h67]; rfl, fun T hT => by
      have : T = 0 := by omega
      subst this
      rw [e2 68 (by decide), h68]; rfl, fun T y a b _ => absurd b (by omega)⟩
  have k1' : am_run 149 48 [.ref 50, .null, .int 1, .null, .null, .null, .null, .null] [] g1 = _ := k1
  rw [k1']
  have hms2 : MS n lk ln c g2 := MS.keep hms1 (by rw [k3 50 (by decide) (by decide) (by decide)]) (k3 55 (by decide) (by decide) (by decide)) (k3 53 (by decide) (by decide) (by decide)) (by rw [k3 57 (by decide) (by decide) (by decide)])
  obtain ⟨g, l1, l2, l3, l4⟩ := m_shEnd hms2 hWb k2
  refine ⟨g, l1, fun q hq => ?_, fun j hj => ?_, ?_, l4⟩
  · simp only [List.mem_cons, List.not_mem_nil, or_false, not_or] at hq
    obtain ⟨q1, q2, q3, q4, q5, q6, q7⟩ := hq
    rw [l2 q q1 q7, k3 q q4 q5 q6, e2 q q3, h0 q q2 q4 q5]
  · rw [l3 j hj, k3 50 (by decide) (by decide) (by decide), e2 50 (by decide), h0 50 (by decide) (by decide) (by decide)]
  · rw [l2 65 (by decide) (by decide), k3 65 (by decide) (by decide) (by decide), e2 65 (by decide), h65]
    exact t2
theorem inR_eq {R : Nat → Bool} {n v S : Nat} (hS : 1 ≤ S) : inR R n v (S + 1) = (inR R n v S || (S.testBit v && R S)) := by
  rw [inR, decide_eq_true hS, Bool.true_and, Bool.and_comm]
theorem m_barL {R : Nat → Bool} (hn : f 50 0 = nI n) (h9 : n ≤ 9) (hr : ∀ p, 1 ≤ p → p < 2 ^ n → f 66 p = bi (R p)) {v : Nat} (hv : v < n) : ∀ d S, S + d = 2 ^ n → 1 ≤ S → am_run 150 14 [.ref 50, .int (nI v), .int (bi (inR R n v S)), .int (nI S)] [] f = if inR R n v (2 ^ n) then am_run 150 2 [.ref 50, .int (nI (v + 1)), .null, .null] [] f else some (nI v, f) := by
  intro d
  have h5 := pow9 h9
  induction d with
  | zero =>
    intro S hS h1
    have : S = 2 ^ n := by omega
    subst this
    rw [eX9_bar_14_50, eX9_all_50, hn, all_eq h9, am_cal_some, if_pos (nI_lt (by omega) (by omega)), nI_1]
    simp only [bi_eq0]
    cases inR R n v (2 ^ n) <;> simp
  | succ d ih =>
    intro S hS h1
    rw [← ih (S + 1) (by omega) (by omega), inR_eq h1, eX9_bar_14_50, eX9_all_50, hn, all_eq h9, am_cal_some, if_neg (nI_nlt (by omega) (by omega)), m_has (by omega) (by omega), am_cal_some, am_ald_in _ _ _ (show S < 512 by omega) (by decide), hr S h1 (by omega), nI_1]
    simp only [bi_eq0]
    cases inR R n v S
    · cases S.testBit v
      · rfl
      · cases R S <;> rfl
    · rfl
theorem m_bar {R : Nat → Bool} (hn : f 50 0 = nI n) (h9 : n ≤ 9) (hr : ∀ p, 1 ≤ p → p < 2 ^ n → f 66 p = bi (R p)) : am_call 150 [.ref 50] f = some (barF R n n 0, f) := by
  have key : ∀ d v, v + d = n → am_run 150 2 [.ref 50, .int (nI v), .null, .null] [] f = some (barF R n d v, f) := by
    intro d
    induction d with
    | zero =>
      intro v hv
      rw [eX9_bar_2_50, hn, if_neg (nI_nlt (by omega) (by omega))]
      rfl
    | succ d ih =>
      intro v hv
      have hb := m_barL hn h9 hr (v := v) (by omega) (2 ^ n - 1) 1 (by have := Nat.two_pow_pos n; omega) (by omega)
      have hb' : am_run 150 14 [.ref 50, .int (nI v), .int 0, .int 1] [] f = _ := hb
      rw [eX9_bar_2_50, hn, if_pos (nI_lt (by omega) (by omega)), hb', ih (v + 1) (by omega), barF]
      cases inR R n v (2 ^ n) <;> rfl
  rw [eX9_bar_50]
  exact key n 0 (by omega)
end ShapeM2
